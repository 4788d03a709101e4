/-! ===== the code of an expression: never cut, only good steps ===== -/
/-- n good steps are added, of the statement's place -/
def CE (n : Nat) (s s' : RS) : Prop := ∃ C : List ST, s'.2.1 = s.2.1 ++ C ∧ C.length = n ∧ (∀ a ∈ C, okS a.1 a.2.1 ∧ a.2.2 = Int32.ofNat s.2.2.1) ∧ s'.2.2.1 = s.2.2.1
section S76
variable {T : List Int32}
theorem CE_0 {s s' : RS} (h1 : s'.2.1 = s.2.1) (h2 : s'.2.2.1 = s.2.2.1) : CE 0 s s' := ⟨[], by rw [List.append_nil]; exact h1, rfl, fun a ha => (by cases ha), h2⟩
theorem CE_len {n : Nat} {s s' : RS} (h : CE n s s') : s'.2.1.length = s.2.1.length + n := by
  obtain ⟨C, a, b, -, -⟩ := h
  rw [a, List.length_append, b]
theorem CE_trans {n m : Nat} {a b c : RS} (x : CE n a b) (y : CE m b c) : CE (n + m) a c := by
  obtain ⟨C, x1, x2, x3, x4⟩ := x
  obtain ⟨D, y1, y2, y3, y4⟩ := y
  refine ⟨C ++ D, by rw [y1, x1, List.append_assoc], by rw [List.length_append, x2, y2], fun z hz => ?_, y4.trans x4⟩
  rcases List.mem_append.mp hz with h | h
  · exact x3 z h
  · obtain ⟨k1, k2⟩ := y3 z h
    exact ⟨k1, by rw [k2, x4]⟩
theorem CE_ra {s : RS} : CE 0 s (ra s) := CE_0 rfl rfl
theorem CE_re {s : RS} {k d : Int32} (hl : s.2.1.length < 41) (ho : okS k d) : CE 1 s (re s k d) := by
  refine ⟨[(k, d, Int32.ofNat s.2.2.1)], ?_, rfl, fun a ha => ?_, rfl⟩
  · show (if s.2.1.length < 41 then _ else _) = _
    rw [if_pos hl]
  · rw [List.mem_singleton] at ha
    subst ha
    exact ⟨ho, rfl⟩
theorem rsp_CE (hT : T.length ≤ 40) {s : RS} (h : (rsp T s).1 = true) (hl : s.2.1.length < 41) : CE 1 s (rsp T s).2 ∧ s.1 + 1 ≤ (rsp T s).2.1 := by
  unfold rsp at h ⊢
  by_cases c1 : isD (cat T s.1) = true
  · rw [if_pos c1]
    refine ⟨CE_trans (n := 0) (m := 1) (b := ((dgs T 6 s.1 (-1)).2, s.2)) (CE_0 rfl rfl) (CE_re hl (Or.inl rfl)), ?_⟩
    show s.1 + 1 ≤ (dgs T 6 s.1 (-1)).2
    simp only [dgs]
    rw [if_pos c1]
    exact (dgs_le 5 (s.1 + 1) _).1
  rw [if_neg c1] at h ⊢
  by_cases c2 : cat T s.1 = 63
  · rw [if_pos c2]; exact ⟨CE_trans (n := 0) (m := 1) CE_ra (CE_re hl (Or.inr (Or.inr (Or.inl (Or.inl rfl))))), Nat.le_refl _⟩
  rw [if_neg c2] at h ⊢
  by_cases c3 : cat T s.1 = 64
  · rw [if_pos c3]; exact ⟨CE_trans (n := 0) (m := 1) CE_ra (CE_re hl (Or.inr (Or.inr (Or.inl (Or.inr rfl))))), Nat.le_refl _⟩
  rw [if_neg c3] at h ⊢
  by_cases c4 : isL (cat T s.1) = true
  · rw [if_pos c4]
    obtain ⟨l, hl2, e1, e2⟩ := L_nat c4
    exact ⟨CE_trans (n := 0 + 1) (m := 0) (CE_trans CE_ra (CE_re hl (Or.inr (Or.inl ⟨Or.inl rfl, l, hl2, e2⟩)))) (CE_0 rfl rfl), Nat.le_refl _⟩
  · rw [if_neg c4] at h; cases h
theorem rR_CE (hT : T.length ≤ 40) : ∀ (f w : Nat) (s s' : RS), rR T f w s = some (true, s') → s.1 ≤ T.length → (w ≤ 15 ∧ w ≠ 4) → s.2.1.length + (if 8 ≤ w then 1 else 0) ≤ s.1 → ∃ n, CE n s s' ∧ n + s.1 ≤ s'.1 + (if 8 ≤ w then 1 else 0) := by
  intro f
  induction f with
  | zero => intro w s s' h; cases h
  | succ f ih =>
    intro w s s' h hp hw15 hl
    have two : ∀ w1 w2, (w1 < 8 ∧ w1 ≠ 4) → (w2 < 8 ∧ w2 ≠ 4) → w < 8 → bb (rR T f w1 s) (rR T f w2) = some (true, s') → ∃ n, CE n s s' ∧ n + s.1 ≤ s'.1 + (if 8 ≤ w then 1 else 0) := by
      intro w1 w2 k1 k2 k0 h
      rcases bb_some h with ⟨s1, a1, a2⟩ | ⟨h1, -⟩
      · have hm := rR_mono _ _ _ _ _ a1
        rw [if_neg (show ¬ 8 ≤ w by omega)] at hl ⊢
        obtain ⟨n, b1, b2⟩ := ih _ _ _ a1 hp (by omega) (by rw [if_neg (show ¬ 8 ≤ w1 by omega)]; omega)
        rw [if_neg (show ¬ 8 ≤ w1 by omega)] at b2
        have := CE_len b1
        obtain ⟨m, c1, c2⟩ := ih _ _ _ a2 (hm.2.1 hp) (by omega) (by rw [if_neg (show ¬ 8 ≤ w2 by omega)]; omega)
        rw [if_neg (show ¬ 8 ≤ w2 by omega)] at c2
        exact ⟨n + m, CE_trans b1 c1, by omega⟩
      · cases h1
    have op : ∀ w1 w2 k, (w1 < 8 ∧ w1 ≠ 4) → (w2 < 8 ∧ w2 ≠ 4) → w < 8 → s.1 < T.length → okS k 0 → bb (rR T f w1 (ra s)) (fun s' => rR T f w2 (re s' k 0)) = some (true, s') → ∃ n, CE n s s' ∧ n + s.1 ≤ s'.1 + (if 8 ≤ w then 1 else 0) := by
      intro w1 w2 k k1 k2 k0 hlt ho h
      rcases bb_some h with ⟨s1, a1, a2⟩ | ⟨h1, -⟩
      · have hm := rR_mono _ _ _ _ _ a1
        rw [if_neg (show ¬ 8 ≤ w by omega)] at hl ⊢
        have e1 : (ra s).1 = s.1 + 1 := rfl
        have e2 : (ra s).2.1 = s.2.1 := rfl
        obtain ⟨n, b1, b2⟩ := ih _ _ _ a1 (by rw [e1]; omega) (by omega) (by rw [if_neg (show ¬ 8 ≤ w1 by omega), e1, e2]; omega)
        rw [if_neg (show ¬ 8 ≤ w1 by omega), e1] at b2
        have hb := CE_len b1
        rw [e2] at hb
        have hs1 := hm.2.1 (by rw [e1]; omega)
        have c0 := CE_re (s := s1) (k := k) (d := 0) (by omega) ho
        have e3 : (re s1 k 0).1 = s1.1 := rfl
        have hc := CE_len c0
        obtain ⟨m, c1, c2⟩ := ih _ _ _ a2 (by rw [e3]; exact hs1) (by omega) (by rw [if_neg (show ¬ 8 ≤ w2 by omega), e3]; omega)
        rw [if_neg (show ¬ 8 ≤ w2 by omega), e3] at c2
        exact ⟨0 + n + (1 + m), CE_trans (CE_trans CE_ra b1) (CE_trans c0 c1), by omega⟩
      · cases h1
    rw [rR] at h
    by_cases w0 : w = 0
    · rw [if_pos w0] at h; exact two _ _ (by decide) (by decide) (by omega) h
    rw [if_neg w0] at h
    by_cases w1 : w = 1
    · rw [if_pos w1] at h; exact two _ _ (by decide) (by decide) (by omega) h
    rw [if_neg w1] at h
    by_cases w2 : w = 2
    · rw [if_pos w2] at h; exact two _ _ (by decide) (by decide) (by omega) h
    rw [if_neg w2] at h
    by_cases w3 : w = 3
    · rw [if_pos w3] at h
      rw [if_neg (show ¬ 8 ≤ w by omega)] at hl ⊢
      have e1 : (ra s).1 = s.1 + 1 := rfl
      have e2 : (ra s).2.1 = s.2.1 := rfl
      by_cases c1 : cat T s.1 = 35
      · rw [if_pos c1] at h
        have hlt := cat_eq c1 (by decide)
        cases hr : rR T f 2 (ra s) with
        | none => rw [hr] at h; cases h
        | some x =>
          obtain ⟨b, s1⟩ := x
          rw [hr] at h
          cases h
          have hm := rR_mono _ _ _ _ _ hr
          obtain ⟨n, b1, b2⟩ := ih _ _ _ hr (by rw [e1]; omega) (by omega) (by rw [if_neg (by decide), e1, e2]; omega)
          rw [if_neg (by decide), e1] at b2
          have hb := CE_len b1
          rw [e2] at hb
          have hs1 := hm.2.1 (by rw [e1]; omega)
          exact ⟨0 + n + 1, CE_trans (CE_trans CE_ra b1) (CE_re (by omega) (Or.inr (Or.inr (Or.inr (Or.inr (Or.inr (Or.inl rfl))))))), by show 0 + n + 1 + s.1 ≤ s1.1 + 0; omega⟩
      rw [if_neg c1] at h
      by_cases c2 : cat T s.1 = 40
      · rw [if_pos c2] at h
        have hlt := cat_eq c2 (by decide)
        rcases bb_some h with ⟨s1, a1, a2⟩ | ⟨h1, -⟩
        · obtain ⟨n, b1, b2⟩ := ih _ _ _ a1 (by rw [e1]; omega) (by omega) (by rw [if_neg (by decide), e1, e2]; omega)
          rw [if_neg (by decide), e1] at b2
          by_cases c3 : cat T s1.1 = 41
          · rw [if_pos c3] at a2
            cases a2
            exact ⟨0 + n + 0, CE_trans (CE_trans CE_ra b1) CE_ra, by show 0 + n + 0 + s.1 ≤ s1.1 + 1 + 0; omega⟩
          · rw [if_neg c3] at a2; cases a2
        · cases h1
      rw [if_neg c2] at h
      by_cases c3 : cat T s.1 = 91
      · rw [if_pos c3] at h
        have hlt := cat_eq c3 (by decide)
        obtain ⟨n, b1, b2⟩ := ih _ _ _ h (by rw [e1]; omega) (by decide) (by rw [if_pos (by decide), e1, e2]; omega)
        rw [if_pos (by decide), e1] at b2
        exact ⟨0 + n, CE_trans CE_ra b1, by omega⟩
      rw [if_neg c3] at h
      have e3 : rsp T s = (true, s') := by injection h
      obtain ⟨b1, b2⟩ := rsp_CE hT (s := s) (by rw [e3]) (by omega)
      rw [e3] at b1 b2
      exact ⟨1, b1, by show 1 + s.1 ≤ s'.1 + 0; have : s.1 + 1 ≤ s'.1 := b2; omega⟩
    rw [if_neg w3] at h
    by_cases w5 : w = 5
    · rw [if_pos w5] at h
      by_cases c1 : cat T s.1 = 43
      · rw [if_pos c1] at h
        exact op _ _ _ (by decide) (by decide) (by omega) (cat_eq c1 (by decide)) (Or.inr (Or.inr (Or.inr (Or.inl (Or.inl rfl))))) h
      rw [if_neg c1] at h
      by_cases c2 : cat T s.1 = 45
      · rw [if_pos c2] at h
        exact op _ _ _ (by decide) (by decide) (by omega) (cat_eq c2 (by decide)) (Or.inr (Or.inr (Or.inr (Or.inl (Or.inr (Or.inl rfl)))))) h
      rw [if_neg c2] at h
      cases h
      exact ⟨0, CE_0 rfl rfl, by omega⟩
    rw [if_neg w5] at h
    by_cases w6 : w = 6
    · rw [if_pos w6] at h
      by_cases c1 : cat T s.1 = 42
      · rw [if_pos c1] at h
        exact op _ _ _ (by decide) (by decide) (by omega) (cat_eq c1 (by decide)) (Or.inr (Or.inr (Or.inr (Or.inl (Or.inr (Or.inr rfl)))))) h
      rw [if_neg c1] at h
      cases h
      exact ⟨0, CE_0 rfl rfl, by omega⟩
    rw [if_neg w6] at h
    by_cases w7 : w = 7
    · rw [if_pos w7] at h
      rw [if_neg (show ¬ 8 ≤ w by omega)] at hl ⊢
      by_cases c1 : cat T s.1 = 46
      · rw [if_pos c1] at h
        by_cases c2 : isD (cat T (s.1 + 1)) = true
        · rw [if_pos c2] at h
          have hlt := isD_lt c2
          obtain ⟨l, hl2, e4⟩ := D_nat c2
          have e5 : cat T (s.1 + 1) - 48 = Int32.ofNat l := by
            rw [e4]
            have := u_subL (a := 48 + l) (n := 48) (by omega)
            rw [show 48 + l - 48 = l by omega] at this
            exact this
          have c0 := CE_re (s := ra s) (k := 7) (d := cat T (s.1 + 1) - 48) (by show s.2.1.length < 41; omega) (Or.inr (Or.inr (Or.inr (Or.inr (Or.inl ⟨rfl, l, hl2, e5⟩)))))
          have hc := CE_len c0
          have e6 : (ra s).2.1.length = s.2.1.length := rfl
          rw [e6] at hc
          have e7 : (ra (re (ra s) 7 (cat T (s.1 + 1) - 48))).1 = s.1 + 2 := rfl
          have e8 : (ra (re (ra s) 7 (cat T (s.1 + 1) - 48))).2.1 = (re (ra s) 7 (cat T (s.1 + 1) - 48)).2.1 := rfl
          obtain ⟨m, d1, d2⟩ := ih _ _ _ h (by rw [e7]; omega) (by decide) (by rw [if_neg (by decide), e7, e8]; omega)
          rw [if_neg (by decide), e7] at d2
          exact ⟨0 + 1 + 0 + m, CE_trans (CE_trans (CE_trans CE_ra c0) CE_ra) d1, by omega⟩
        · rw [if_neg c2] at h; cases h
      rw [if_neg c1] at h
      cases h
      exact ⟨0, CE_0 rfl rfl, by omega⟩
    rw [if_neg w7] at h
    rcases bb_some h with ⟨s1, a1, a2⟩ | ⟨h1, -⟩
    rotate_left
    · cases h1
    have hm := rR_mono _ _ _ _ _ a1
    by_cases w8 : 8 ≤ w
    · rw [if_pos w8] at hl ⊢
      obtain ⟨n, b1, b2⟩ := ih _ _ _ a1 hp (by decide) (by rw [if_neg (by decide)]; omega)
      rw [if_neg (by decide)] at b2
      have hb := CE_len b1
      have hs1 := hm.2.1 hp
      have c0 := CE_re (s := s1) (k := 9) (d := 0) (by omega) (Or.inr (Or.inr (Or.inr (Or.inr (Or.inr (Or.inr (Or.inl rfl)))))))
      have hc := CE_len c0
      by_cases c1 : cat T s1.1 = 93
      · rw [if_pos c1] at a2
        cases a2
        have d0 := CE_re (s := ra (re s1 9 0)) (k := 10) (d := Int32.ofNat (w - 7)) (by show (re s1 9 0).2.1.length < 41; omega) (Or.inr (Or.inr (Or.inr (Or.inr (Or.inr (Or.inr (Or.inr (Or.inl ⟨rfl, w - 7, by omega, rfl⟩))))))))
        exact ⟨n + (1 + (0 + 1)), CE_trans b1 (CE_trans c0 (CE_trans CE_ra d0)), by show n + (1 + (0 + 1)) + s.1 ≤ s1.1 + 1 + 1; omega⟩
      rw [if_neg c1] at a2
      by_cases c2 : w = 15
      · rw [if_pos c2] at a2; cases a2
      rw [if_neg c2] at a2
      by_cases c3 : cat T s1.1 = 44
      · rw [if_pos c3] at a2
        have hlt := cat_eq c3 (by decide)
        have e7 : (ra (re s1 9 0)).1 = s1.1 + 1 := rfl
        have e8 : (ra (re s1 9 0)).2.1 = (re s1 9 0).2.1 := rfl
        obtain ⟨m, d1, d2⟩ := ih _ _ _ a2 (by rw [e7]; omega) (by omega) (by rw [if_pos (by omega), e7, e8]; omega)
        rw [if_pos (by omega), e7] at d2
        exact ⟨n + (1 + (0 + m)), CE_trans b1 (CE_trans c0 (CE_trans CE_ra d1)), by omega⟩
      · rw [if_neg c3] at a2; cases a2
    · omega
end S76
