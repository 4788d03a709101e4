/-! ===== which names a text uses ===== -/
/-- the letter j stands at the place i -/
def lb (T : List Int32) (i j : Nat) : Bool := isL (cat T i) && decide (cat T i = Int32.ofNat (97 + j))
/-- the letter j stands in [p, r) -/
def lbt (T : List Int32) (p r j : Nat) : Bool := anyb (fun i => decide (p ≤ i) && lb T i j) r
theorem lbt_iff {T : List Int32} {p r j : Nat} : lbt T p r j = true ↔ ∃ i, p ≤ i ∧ i < r ∧ lb T i j = true := by
  unfold lbt
  rw [anyb_iff]
  constructor
  · rintro ⟨i, a, b⟩
    simp only [Bool.and_eq_true, decide_eq_true_eq] at b
    exact ⟨i, b.1, a, b.2⟩
  · rintro ⟨i, a, b, c⟩
    exact ⟨i, b, by simp [a, c]⟩
theorem lbt_add {T : List Int32} {p q r j : Nat} (h1 : p ≤ q) (h2 : q ≤ r) : lbt T p r j = (lbt T p q j || lbt T q r j) := by
  rw [Bool.eq_iff_iff, Bool.or_eq_true, lbt_iff, lbt_iff, lbt_iff]
  constructor
  · rintro ⟨i, a, b, c⟩
    by_cases h : i < q
    · exact Or.inl ⟨i, a, h, c⟩
    · exact Or.inr ⟨i, by omega, b, c⟩
  · rintro (⟨i, a, b, c⟩ | ⟨i, a, b, c⟩)
    · exact ⟨i, a, by omega, c⟩
    · exact ⟨i, by omega, b, c⟩
theorem lbt_self {T : List Int32} {p j : Nat} : lbt T p p j = false := by
  cases h : lbt T p p j with
  | false => rfl
  | true => obtain ⟨i, a, b, -⟩ := lbt_iff.mp h; omega
theorem lbt_1 {T : List Int32} {p j : Nat} : lbt T p (p + 1) j = lb T p j := by
  rw [Bool.eq_iff_iff, lbt_iff]
  constructor
  · rintro ⟨i, a, b, c⟩
    have : i = p := by omega
    rw [this] at c; exact c
  · intro h; exact ⟨p, Nat.le_refl _, Nat.lt_succ_self _, h⟩
theorem lb_no {T : List Int32} {p j : Nat} (h : ¬ isL (cat T p) = true) : lb T p j = false := by
  unfold lb
  have : isL (cat T p) = false := by simpa using h
  rw [this]; rfl
theorem dgs_D {T : List Int32} : ∀ k p n i, p ≤ i → i < (dgs T k p n).2 → isD (cat T i) = true := by
  intro k
  induction k with
  | zero => intro p n i h1 h2; have h3 : i < p := h2; omega
  | succ k ih =>
    intro p n i h1 h2
    simp only [dgs] at h2
    by_cases hd : isD (cat T p) = true
    · rw [if_pos hd] at h2
      by_cases e : i = p
      · subst e; exact hd
      · exact ih (p + 1) _ i (by omega) h2
    · rw [if_neg hd] at h2
      have h3 : i < p := h2
      omega
/-- what a part of an expression leaves: start, known, defines, changes stay; uses grow by its letters -/
def US (T : List Int32) (s s' : RS) : Prop := s'.2.2.1 = s.2.2.1 ∧ s'.2.2.2.1 = s.2.2.2.1 ∧ s'.2.2.2.2.1 = s.2.2.2.2.1 ∧ s'.2.2.2.2.2.1 = s.2.2.2.2.2.1 ∧ s.1 ≤ s'.1 ∧ ∀ j, j < 32 → bt s'.2.2.2.2.2.2 j = (bt s.2.2.2.2.2.2 j || (lbt T s.1 s'.1 j && !bt s.2.2.2.1 j))
section U58
variable {T : List Int32}
theorem US_refl {s : RS} : US T s s := ⟨rfl, rfl, rfl, rfl, Nat.le_refl _, fun j _ => by rw [lbt_self]; simp⟩
theorem US_trans {a b c : RS} (x : US T a b) (y : US T b c) : US T a c := by
  obtain ⟨x1, x2, x3, x4, x5, x6⟩ := x
  obtain ⟨y1, y2, y3, y4, y5, y6⟩ := y
  refine ⟨y1.trans x1, y2.trans x2, y3.trans x3, y4.trans x4, Nat.le_trans x5 y5, fun j hj => ?_⟩
  rw [y6 j hj, x6 j hj, x2, lbt_add x5 y5]
  cases bt a.2.2.2.2.2.2 j <;> cases lbt T a.1 b.1 j <;> cases lbt T b.1 c.1 j <;> cases bt a.2.2.2.1 j <;> rfl
theorem US_ra {s : RS} (h : ¬ isL (cat T s.1) = true) : US T s (ra s) := by
  refine ⟨rfl, rfl, rfl, rfl, Nat.le_succ _, fun j _ => ?_⟩
  have : lbt T s.1 (ra s).1 j = false := by
    show lbt T s.1 (s.1 + 1) j = false
    rw [lbt_1]; exact lb_no h
  rw [this]; simp [ra]
theorem US_re {s : RS} {k d : Int32} : US T s (re s k d) := ⟨rfl, rfl, rfl, rfl, Nat.le_refl _, fun j _ => by
  have : lbt T s.1 (re s k d).1 j = false := lbt_self
  rw [this]; simp [re]⟩
theorem nL {x c : Int32} (h : x = c) (hc : isL c = false) : ¬ isL x = true := by rw [h, hc]; decide
theorem rsp_US {s : RS} (h : (rsp T s).1 = true) : US T s (rsp T s).2 := by
  unfold rsp at h ⊢
  by_cases c1 : isD (cat T s.1) = true
  · rw [if_pos c1]
    have hd := dgs_le (T := T) 6 s.1 (-1)
    refine US_trans (b := ((dgs T 6 s.1 (-1)).2, s.2)) ⟨rfl, rfl, rfl, rfl, hd.1, fun j _ => ?_⟩ US_re
    have : lbt T s.1 (dgs T 6 s.1 (-1)).2 j = false := by
      cases hh : lbt T s.1 (dgs T 6 s.1 (-1)).2 j with
      | false => rfl
      | true =>
        obtain ⟨i, a, b, c⟩ := lbt_iff.mp hh
        have := dgs_D 6 s.1 (-1) i a b
        unfold lb at c
        simp only [Bool.and_eq_true] at c
        exact absurd this (L_ne c.1).1
    show _ = (_ || (lbt T s.1 (dgs T 6 s.1 (-1)).2 j && _))
    rw [this]; simp
  rw [if_neg c1] at h ⊢
  by_cases c2 : cat T s.1 = 63
  · rw [if_pos c2]; exact US_trans (US_ra (nL c2 (by decide))) US_re
  rw [if_neg c2] at h ⊢
  by_cases c3 : cat T s.1 = 64
  · rw [if_pos c3]; exact US_trans (US_ra (nL c3 (by decide))) US_re
  rw [if_neg c3] at h ⊢
  by_cases c4 : isL (cat T s.1) = true
  · rw [if_pos c4]
    obtain ⟨l, hl, e1, e2⟩ := L_nat c4
    refine ⟨rfl, rfl, rfl, rfl, Nat.le_succ _, fun j hj => ?_⟩
    show bt (s.2.2.2.2.2.2 ||| (if v_126 s.2.2.2.1 (cat T s.1 - 97) = 0 then (1 <<< ((cat T s.1 - 97) &&& 31)) else 0)) j = (bt s.2.2.2.2.2.2 j || (lbt T s.1 (s.1 + 1) j && !bt s.2.2.2.1 j))
    rw [lbt_1, e2, u_has (by omega), bt_or]
    have hlb : lb T s.1 j = decide (j = l) := by
      unfold lb
      rw [c4, e1, Bool.true_and]
      simp only [u_inj (show 97 + l < 2147483648 by omega) (show 97 + j < 2147483648 by omega), decide_eq_decide]
      omega
    rw [hlb]
    by_cases ej : j = l
    · subst ej
      cases hk : bt s.2.2.2.1 j with
      | true => rw [if_neg (by decide), bt_zero]; simp
      | false => rw [if_pos (by decide), bt_one hj]; simp
    · cases hk : bt s.2.2.2.1 l with
      | true => rw [if_neg (by decide), bt_zero]; simp [ej]
      | false => rw [if_pos (by decide), bt_one (by omega)]; simp [ej]
  · rw [if_neg c4] at h; cases h
theorem rR_US : ∀ (f w : Nat) (s s' : RS), rR T f w s = some (true, s') → US T s s' := by
  intro f
  induction f with
  | zero => intro w s s' h; cases h
  | succ f ih =>
    intro w s s' h
    have two : ∀ w1 w2, bb (rR T f w1 s) (rR T f w2) = some (true, s') → US T s s' := by
      intro w1 w2 h
      rcases bb_some h with ⟨s1, a1, a2⟩ | ⟨h1, -⟩
      · exact US_trans (ih _ _ _ a1) (ih _ _ _ a2)
      · cases h1
    have op : ∀ w1 w2 k, ¬ isL (cat T s.1) = true → bb (rR T f w1 (ra s)) (fun s' => rR T f w2 (re s' k 0)) = some (true, s') → US T s s' := by
      intro w1 w2 k hn h
      rcases bb_some h with ⟨s1, a1, a2⟩ | ⟨h1, -⟩
      · exact US_trans (US_ra hn) (US_trans (ih _ _ _ a1) (US_trans US_re (ih _ _ _ a2)))
      · cases h1
    rw [rR] at h
    by_cases w0 : w = 0
    · rw [if_pos w0] at h; exact two _ _ h
    rw [if_neg w0] at h
    by_cases w1 : w = 1
    · rw [if_pos w1] at h; exact two _ _ h
    rw [if_neg w1] at h
    by_cases w2 : w = 2
    · rw [if_pos w2] at h; exact two _ _ h
    rw [if_neg w2] at h
    by_cases w3 : w = 3
    · rw [if_pos w3] at h
      by_cases c1 : cat T s.1 = 35
      · rw [if_pos c1] at h
        split at h
        · rename_i b1 s1 hs1
          have e1 : b1 = true := by cases h; rfl
          have e2 : s' = re s1 8 0 := by cases h; rfl
          rw [e1] at hs1
          rw [e2]
          exact US_trans (US_ra (nL c1 (by decide))) (US_trans (ih _ _ _ hs1) US_re)
        · cases h
      rw [if_neg c1] at h
      by_cases c2 : cat T s.1 = 40
      · rw [if_pos c2] at h
        rcases bb_some h with ⟨s1, a1, a2⟩ | ⟨h1, -⟩
        · split at a2
          · rename_i c3
            have e2 : s' = ra s1 := by cases a2; rfl
            rw [e2]
            exact US_trans (US_ra (nL c2 (by decide))) (US_trans (ih _ _ _ a1) (US_ra (nL c3 (by decide))))
          · cases a2
        · cases h1
      rw [if_neg c2] at h
      by_cases c3 : cat T s.1 = 91
      · rw [if_pos c3] at h
        exact US_trans (US_ra (nL c3 (by decide))) (ih _ _ _ h)
      rw [if_neg c3] at h
      have e : rsp T s = (true, s') := Option.some.inj h
      have := rsp_US (T := T) (s := s) (by rw [e])
      rw [e] at this; exact this
    rw [if_neg w3] at h
    by_cases w5 : w = 5
    · rw [if_pos w5] at h
      by_cases c1 : cat T s.1 = 43
      · rw [if_pos c1] at h; exact op _ _ _ (nL c1 (by decide)) h
      rw [if_neg c1] at h
      by_cases c2 : cat T s.1 = 45
      · rw [if_pos c2] at h; exact op _ _ _ (nL c2 (by decide)) h
      rw [if_neg c2] at h
      have e2 : s' = s := by cases h; rfl
      rw [e2]; exact US_refl
    rw [if_neg w5] at h
    by_cases w6 : w = 6
    · rw [if_pos w6] at h
      by_cases c1 : cat T s.1 = 42
      · rw [if_pos c1] at h; exact op _ _ _ (nL c1 (by decide)) h
      rw [if_neg c1] at h
      have e2 : s' = s := by cases h; rfl
      rw [e2]; exact US_refl
    rw [if_neg w6] at h
    by_cases w7 : w = 7
    · rw [if_pos w7] at h
      by_cases c1 : cat T s.1 = 46
      · rw [if_pos c1] at h
        by_cases c2 : isD (cat T (s.1 + 1)) = true
        · rw [if_pos c2] at h
          have hn : ¬ isL (cat T (s.1 + 1)) = true := fun hl => (L_ne hl).1 c2
          exact US_trans (US_ra (nL c1 (by decide))) (US_trans US_re (US_trans (US_ra (s := re (ra s) 7 (cat T (s.1 + 1) - 48)) hn) (ih _ _ _ h)))
        · rw [if_neg c2] at h; cases h
      rw [if_neg c1] at h
      have e2 : s' = s := by cases h; rfl
      rw [e2]; exact US_refl
    rw [if_neg w7] at h
    rcases bb_some h with ⟨s1, a1, a2⟩ | ⟨h1, -⟩
    · have u1 := ih _ _ _ a1
      by_cases c1 : cat T s1.1 = 93
      · rw [if_pos c1] at a2
        have e2 : s' = re (ra (re s1 9 0)) 10 (Int32.ofNat (w - 7)) := by cases a2; rfl
        rw [e2]
        exact US_trans u1 (US_trans US_re (US_trans (US_ra (s := re s1 9 0) (nL c1 (by decide))) US_re))
      rw [if_neg c1] at a2
      by_cases w15 : w = 15
      · rw [if_pos w15] at a2; cases a2
      rw [if_neg w15] at a2
      by_cases c2 : cat T s1.1 = 44
      · rw [if_pos c2] at a2
        exact US_trans u1 (US_trans US_re (US_trans (US_ra (s := re s1 9 0) (nL c2 (by decide))) (ih _ _ _ a2)))
      · rw [if_neg c2] at a2; cases a2
    · cases h1
end U58
