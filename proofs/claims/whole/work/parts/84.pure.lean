/-! ===== pure runs over appended lists ===== -/
section S84
variable {p : DP}
theorem xr_app : ∀ (C D : List ST) (P : PM), xr p (C ++ D) P = match xr p C P with
    | none => none
    | some r => if r.1 = 0 then xr p D r.2.2 else some r := by
  intro C
  induction C with
  | nil => intro D P; simp [xr]
  | cons a C ih =>
    intro D P
    rw [List.cons_append]
    simp only [xr]
    cases hx : xs p a.1 a.2.1 P with
    | none => rfl
    | some r =>
      by_cases e : r.1 = 0
      · simp only [e, if_true]; exact ih D r.2
      · simp only [e, if_false]
theorem fls_app : ∀ (Q O : List (Int32 × Nat)) (P : PM), fls p (Q ++ O) P = match fls p Q P with
    | none => none
    | some r => if r.1 = 0 then fls p O r.2 else some r := by
  intro Q
  induction Q with
  | nil => intro O P; simp [fls]
  | cons a Q ih =>
    intro O P
    rw [List.cons_append]
    simp only [fls]
    cases hx : xs p (ock a.1) 0 P with
    | none => rfl
    | some r =>
      by_cases e : r.1 = 0
      · simp only [e, if_true]; exact ih O r.2
      · simp only [e, if_false]
end S84
