/-! ===== the sets of rules ===== -/
/-- the letter j stands at i, where a clause begins -/
def dl (T : List Int32) (i j : Nat) : Bool := lb T i j && decide (i = 0 ∨ cat T (i - 1) = 59)
def dlt (T : List Int32) (p r j : Nat) : Bool := anyb (fun i => decide (p ≤ i) && dl T i j) r
section S63
variable {T : List Int32}
theorem dlt_iff {p r j : Nat} : dlt T p r j = true ↔ ∃ i, p ≤ i ∧ i < r ∧ dl T i j = true := by
  unfold dlt
  rw [anyb_iff]
  constructor
  · rintro ⟨i, a, b⟩
    simp only [Bool.and_eq_true, decide_eq_true_eq] at b
    exact ⟨i, b.1, a, b.2⟩
  · rintro ⟨i, a, b, c⟩
    exact ⟨i, b, by simp [a, c]⟩
theorem dlt_add {p q r j : Nat} (h1 : p ≤ q) (h2 : q ≤ r) : dlt T p r j = (dlt T p q j || dlt T q r j) := by
  rw [Bool.eq_iff_iff, Bool.or_eq_true, dlt_iff, dlt_iff, dlt_iff]
  constructor
  · rintro ⟨i, a, b, c⟩
    by_cases h : i < q
    · exact Or.inl ⟨i, a, h, c⟩
    · exact Or.inr ⟨i, by omega, b, c⟩
  · rintro (⟨i, a, b, c⟩ | ⟨i, a, b, c⟩)
    · exact ⟨i, a, by omega, c⟩
    · exact ⟨i, by omega, b, c⟩
theorem dlt_self {p j : Nat} : dlt T p p j = false := by
  cases h : dlt T p p j with
  | false => rfl
  | true => obtain ⟨i, a, b, -⟩ := dlt_iff.mp h; omega
theorem dlt_1 {p j : Nat} : dlt T p (p + 1) j = dl T p j := by
  rw [Bool.eq_iff_iff, dlt_iff]
  constructor
  · rintro ⟨i, a, b, c⟩
    have : i = p := by omega
    rw [this] at c; exact c
  · intro h; exact ⟨p, Nat.le_refl _, Nat.lt_succ_self _, h⟩
theorem bt_let {x : Int32} {p j : Nat} (h : isL (cat T p) = true) (hj : j < 32) : bt (x ||| (1 <<< ((cat T p - 97) &&& 31))) j = (bt x j || lb T p j) := by
  obtain ⟨l, hl, e1, e2⟩ := L_nat h
  rw [e2, bt_or, bt_one (by omega)]
  congr 1
  unfold lb
  rw [h, e1, Bool.true_and]
  simp only [u_inj (show 97 + l < 2147483648 by omega) (show 97 + j < 2147483648 by omega), decide_eq_decide]
  omega
theorem lb_x {p j : Nat} {x : Int32} (h : cat T p = x) (hx : isL x = false) : lb T p j = false := lb_no (by rw [h, hx]; decide)
theorem ns_L {x : Int32} (h : isL x = true) : ¬ x = 59 := by
  intro e; rw [e] at h; exact absurd h (by decide)
theorem rnm_E : ∀ (k : Nat) (x : Int32) (s : RS), ¬ (rnm T k x s).1 = -1 → (rnm T k x s).2.2 = s.2 ∧ s.1 ≤ (rnm T k x s).2.1 ∧ (∀ i, s.1 ≤ i → i < (rnm T k x s).2.1 → ¬ cat T i = 59) ∧ ∀ j, j < 32 → bt (rnm T k x s).1 j = (bt x j || lbt T s.1 (rnm T k x s).2.1 j) := by
  intro k
  induction k with
  | zero => intro x s _; exact ⟨rfl, Nat.le_refl _, fun i h1 h2 => by have h3 : i < s.1 := h2; omega, fun j _ => by show bt x j = (bt x j || lbt T s.1 s.1 j); rw [lbt_self, Bool.or_false]⟩
  | succ k ih =>
    intro x s h
    simp only [rnm] at h ⊢
    by_cases c1 : isL (cat T s.1) = true
    · simp only [c1, if_true] at h ⊢
      have one : (ra s).2 = s.2 ∧ s.1 ≤ (ra s).1 ∧ (∀ i, s.1 ≤ i → i < (ra s).1 → ¬ cat T i = 59) ∧ ∀ j, j < 32 → bt (x ||| (1 <<< ((cat T s.1 - 97) &&& 31))) j = (bt x j || lbt T s.1 (ra s).1 j) := by
        refine ⟨rfl, Nat.le_succ _, fun i h1 h2 => ?_, fun j hj => ?_⟩
        · have h3 : i < s.1 + 1 := h2
          have : i = s.1 := by omega
          rw [this]; exact ns_L c1
        · rw [bt_let c1 hj]
          show _ = (bt x j || lbt T s.1 (s.1 + 1) j)
          rw [lbt_1]
      by_cases c2 : k = 0
      · simp only [c2, if_true]; exact one
      · simp only [c2, if_false] at h ⊢
        by_cases c3 : cat T (s.1 + 1) = 44
        · simp only [c3, if_true] at h ⊢
          obtain ⟨a1, a2, a3, a4⟩ := ih _ _ h
          have a2' : s.1 + 1 + 1 ≤ (rnm T k (x ||| (1 <<< ((cat T s.1 - 97) &&& 31))) (ra (ra s))).2.1 := a2
          refine ⟨a1, by omega, fun i h1 h2 => ?_, fun j hj => ?_⟩
          · by_cases e1 : i = s.1
            · rw [e1]; exact ns_L c1
            · by_cases e2 : i = s.1 + 1
              · rw [e2, c3]; decide
              · exact a3 i (by show s.1 + 1 + 1 ≤ i; omega) h2
          · rw [a4 j hj, bt_let c1 hj, lbt_add (show s.1 ≤ s.1 + 1 + 1 by omega) a2', lbt_add (show s.1 ≤ s.1 + 1 by omega) (Nat.le_succ _), lbt_1, lbt_1, lb_x c3 (by decide), Bool.or_false, Bool.or_assoc]
            rfl
        · simp only [c3, if_false] at h ⊢
          exact one
    · simp only [c1] at h
      exact absurd rfl h
theorem rcl_E : ∀ (f : Nat) (nm : Int32) (s : RS), (rcl T f nm s).1 = true → (s.1 = 0 ∨ cat T (s.1 - 1) = 59) → s.1 ≤ (rcl T f nm s).2.1 ∧ (∀ i, s.1 ≤ i → i < (rcl T f nm s).2.1 → (i = 0 ∨ cat T (i - 1) = 59) → isL (cat T i) = true) ∧ (rcl T f nm s).2.2.2.2.2.2.1 = s.2.2.2.2.2.1 ∧ (∀ j, j < 32 → bt (rcl T f nm s).2.2.2.2.2.1 j = (bt s.2.2.2.2.1 j || dlt T s.1 (rcl T f nm s).2.1 j)) ∧ (∀ j, j < 32 → bt (rcl T f nm s).2.2.2.2.2.2.2 j = ((bt nm j || lbt T s.1 (rcl T f nm s).2.1 j) && !bt (rcl T f nm s).2.2.2.2.2.1 j)) := by
  intro f
  induction f with
  | zero => intro nm s h; cases h
  | succ f ih =>
    intro nm s h hs
    simp only [rcl] at h ⊢
    by_cases c1 : isL (cat T (rstart s).1) = true
    · rw [if_pos c1] at h ⊢
      have c1' : isL (cat T s.1) = true := c1
      -- the names of the clause
      have nms : ∀ r : Int32 × RS, r = (if cat T ((rstart s).1 + 1) = 58 then rnm T 5 0 (ra (ra (rstart s))) else (0, ra (rstart s))) → ¬ r.1 = -1 → s.1 + 1 ≤ r.2.1 ∧ r.2.2 = (rstart s).2 ∧ (∀ i, s.1 ≤ i → i < r.2.1 → ¬ cat T i = 59) ∧ ∀ j, j < 32 → (bt r.1 j || lb T s.1 j) = lbt T s.1 r.2.1 j := by
        intro r hr hn
        by_cases c2 : cat T ((rstart s).1 + 1) = 58
        · have c2' : cat T (s.1 + 1) = 58 := c2
          rw [if_pos c2] at hr
          subst hr
          obtain ⟨a1, a2, a3, a4⟩ := rnm_E _ _ _ hn
          have a2' : s.1 + 1 + 1 ≤ (rnm T 5 0 (ra (ra (rstart s)))).2.1 := a2
          refine ⟨by omega, a1, fun i h1 h2 => ?_, fun j hj => ?_⟩
          · by_cases e1 : i = s.1
            · rw [e1]; exact ns_L c1'
            · by_cases e2 : i = s.1 + 1
              · rw [e2, c2']; decide
              · exact a3 i (by show s.1 + 1 + 1 ≤ i; omega) h2
          · rw [a4 j hj, bt_zero, Bool.false_or, lbt_add (show s.1 ≤ s.1 + 1 + 1 by omega) a2', lbt_add (show s.1 ≤ s.1 + 1 by omega) (Nat.le_succ _), lbt_1, lbt_1, lb_x c2' (by decide), Bool.or_false, Bool.or_comm]
            rfl
        · rw [if_neg c2] at hr
          subst hr
          refine ⟨Nat.le_refl _, rfl, fun i h1 h2 => ?_, fun j hj => ?_⟩
          · have h3 : i < s.1 + 1 := h2
            have : i = s.1 := by omega
            rw [this]; exact ns_L c1'
          · show (bt 0 j || lb T s.1 j) = lbt T s.1 (s.1 + 1) j
            rw [bt_zero, Bool.false_or, lbt_1]
      generalize (if cat T ((rstart s).1 + 1) = 58 then rnm T 5 0 (ra (ra (rstart s))) else (0, ra (rstart s))) = r at *
      by_cases c3 : r.1 = -1
      · rw [if_pos c3] at h; cases h
      rw [if_neg c3] at h ⊢
      obtain ⟨n1, n2, n3, n4⟩ := nms r rfl c3
      have e5 : r.2.2.2.2.2.1 = s.2.2.2.2.1 := by rw [n2]; rfl
      have e6 : r.2.2.2.2.2.2.1 = s.2.2.2.2.2.1 := by rw [n2]; rfl
      -- of a clause, only its first letter is defined
      have d1 : ∀ j, dlt T s.1 r.2.1 j = lb T s.1 j := by
        intro j
        rw [dlt_add (Nat.le_succ _) n1, dlt_1]
        have : dlt T (s.1 + 1) r.2.1 j = false := by
          cases hh : dlt T (s.1 + 1) r.2.1 j with
          | false => rfl
          | true =>
            obtain ⟨i, i1, i2, i3⟩ := dlt_iff.mp hh
            unfold dl at i3
            rw [Bool.and_eq_true, decide_eq_true_eq] at i3
            rcases i3.2 with z | z
            · omega
            · exact absurd z (n3 (i - 1) (by omega) (by omega))
        rw [this, Bool.or_false]
        unfold dl
        rw [decide_eq_true hs, Bool.and_true]
      have d2 : ∀ i, s.1 ≤ i → i < r.2.1 → (i = 0 ∨ cat T (i - 1) = 59) → isL (cat T i) = true := by
        intro i h1 h2 h3
        by_cases e : i = s.1
        · rw [e]; exact c1'
        · rcases h3 with z | z
          · omega
          · exact absurd z (n3 (i - 1) (by omega) (by omega))
      have d3 : ∀ j, j < 32 → bt (r.2.2.2.2.2.1 ||| (1 <<< ((cat T (rstart s).1 - 97) &&& 31))) j = (bt s.2.2.2.2.1 j || dlt T s.1 r.2.1 j) := by
        intro j hj
        rw [e5, bt_let c1 hj, d1]
        rfl
      have pl : (rdef (re r.2 (cat T (rstart s).1 - 97) r.1) (r.2.2.2.2.2.1 ||| (1 <<< ((cat T (rstart s).1 - 97) &&& 31)))).1 = r.2.1 := rfl
      have pd : (rdef (re r.2 (cat T (rstart s).1 - 97) r.1) (r.2.2.2.2.2.1 ||| (1 <<< ((cat T (rstart s).1 - 97) &&& 31)))).2.2.2.2.1 = (r.2.2.2.2.2.1 ||| (1 <<< ((cat T (rstart s).1 - 97) &&& 31))) := rfl
      have pc : (rdef (re r.2 (cat T (rstart s).1 - 97) r.1) (r.2.2.2.2.2.1 ||| (1 <<< ((cat T (rstart s).1 - 97) &&& 31)))).2.2.2.2.2.1 = s.2.2.2.2.2.1 := e6
      generalize rdef (re r.2 (cat T (rstart s).1 - 97) r.1) (r.2.2.2.2.2.1 ||| (1 <<< ((cat T (rstart s).1 - 97) &&& 31))) = s2 at *
      rw [← pd] at d3
      rw [← pl] at n1 n4 d1 d2 d3
      by_cases c4 : cat T s2.1 = 59
      · rw [if_pos c4] at h ⊢
        obtain ⟨a1, a2, a3, a4, a5⟩ := ih (nm ||| r.1) (ra s2) h (Or.inr (by show cat T (s2.1 + 1 - 1) = 59; rw [Nat.add_sub_cancel]; exact c4))
        have a1' : s2.1 + 1 ≤ (rcl T f (nm ||| r.1) (ra s2)).2.1 := a1
        refine ⟨by omega, fun i h1 h2 h3 => ?_, a3.trans pc, fun j hj => ?_, fun j hj => ?_⟩
        · by_cases e : i < s2.1
          · exact d2 i h1 e h3
          · by_cases e2 : i = s2.1
            · rcases h3 with z | z
              · omega
              · exact absurd z (n3 (i - 1) (by omega) (by omega))
            · exact a2 i (by show s2.1 + 1 ≤ i; omega) h2 h3
        · rw [a4 j hj]
          show (bt s2.2.2.2.2.1 j || dlt T (s2.1 + 1) _ j) = _
          rw [d3 j hj, dlt_add (show s.1 ≤ s2.1 by omega) (show s2.1 ≤ (rcl T f (nm ||| r.1) (ra s2)).2.1 by omega), dlt_add (Nat.le_succ s2.1) a1', dlt_1]
          have : dl T s2.1 j = false := by unfold dl; rw [lb_x c4 (by decide)]; rfl
          rw [this, Bool.false_or, Bool.or_assoc]
        · rw [a5 j hj]
          show ((bt (nm ||| r.1) j || lbt T (s2.1 + 1) _ j) && _) = _
          have hd : bt (rcl T f (nm ||| r.1) (ra s2)).2.2.2.2.2.1 j = (bt s2.2.2.2.2.1 j || dlt T (s2.1 + 1) (rcl T f (nm ||| r.1) (ra s2)).2.1 j) := a4 j hj
          rw [hd, d3 j hj, d1, bt_or, lbt_add (show s.1 ≤ s2.1 by omega) (show s2.1 ≤ (rcl T f (nm ||| r.1) (ra s2)).2.1 by omega), lbt_add (Nat.le_succ s2.1) a1', lbt_1, lb_x c4 (by decide), Bool.false_or, ← n4 j hj]
          cases bt nm j <;> cases bt r.1 j <;> cases lb T s.1 j <;> cases lbt T (s2.1 + 1) (rcl T f (nm ||| r.1) (ra s2)).2.1 j <;> simp
      · rw [if_neg c4] at h ⊢
        refine ⟨by show s.1 ≤ s2.1; omega, d2, pc, d3, fun j hj => ?_⟩
        show bt ((nm ||| r.1) &&& (s2.2.2.2.2.1 ^^^ (-1))) j = ((bt nm j || lbt T s.1 s2.1 j) && !bt s2.2.2.2.2.1 j)
        rw [bt_and, bt_not hj, d3 j hj, d1, bt_or, ← n4 j hj]
        cases bt nm j <;> cases bt r.1 j <;> cases lb T s.1 j <;> simp
    · rw [if_neg c1] at h; cases h
end S63
