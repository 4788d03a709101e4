/-! ===== the model's scanner as a function; it finds what rR finds ===== -/
abbrev SC : Type := Nat × List (Int32 × Nat) × Bool
def topRow (M : List (Int32 × Nat)) : Bool := match M with
  | [] => false
  | x :: _ => decide (x.1 = 91)
def scS (T : List Int32) (t : SC) : SC ⊕ (Bool × Nat) :=
  let x := cat T t.1
  if t.2.2 = false ∧ t.2.1 = [] ∧ (¬ t.1 < T.length ∨ x = 59) then .inr (true, t.1)
  else if t.2.2 = true then
    if isD x = true then (if isD (cat T (dgs T 6 t.1 (-1)).2) = true then .inr (false, (dgs T 6 t.1 (-1)).2) else .inl ((dgs T 6 t.1 (-1)).2, t.2.1, false))
    else if isL x = true ∨ x = 63 ∨ x = 64 then .inl (t.1 + 1, t.2.1, false)
    else if x = 35 then .inl (t.1 + 1, t.2.1, true)
    else if x = 40 ∨ x = 91 then .inl (t.1 + 1, (x, 1) :: t.2.1, true)
    else .inr (false, t.1)
  else if x = 46 then (if isD (cat T (t.1 + 1)) = true then .inl (t.1 + 2, t.2.1, false) else .inr (false, t.1 + 1))
  else if x = 43 ∨ x = 45 ∨ x = 42 then .inl (t.1 + 1, t.2.1, true)
  else match t.2.1 with
    | [] => .inr (false, t.1)
    | (k, c) :: M =>
      if (x = 41 ∧ ¬ k = 91) ∨ (x = 93 ∧ k = 91) then .inl (t.1 + 1, M, false)
      else if x = 44 ∧ k = 91 ∧ c < 8 then .inl (t.1 + 1, (k, c + 1) :: M, true)
      else .inr (false, t.1)
def scF (T : List Int32) : Nat → SC → Bool × Nat
  | 0, _ => (false, 0)
  | k + 1, t => match scS T t with
    | .inl t' => scF T k t'
    | .inr e => e
def Rc (T : List Int32) (t t' : SC) : Prop := ∀ K, 41 ≤ K + t.1 → ∃ K', 41 ≤ K' + t'.1 ∧ scF T K t = scF T K' t'
def Ex (T : List Int32) (t : SC) (e : Bool × Nat) : Prop := ∀ K, 41 ≤ K + t.1 → scF T K t = e
section S50
variable {T : List Int32}
theorem Rc_refl {t : SC} : Rc T t t := fun K h => ⟨K, h, rfl⟩
theorem Rc_trans {a b c : SC} (x : Rc T a b) (y : Rc T b c) : Rc T a c := by
  intro K h
  obtain ⟨K1, h1, e1⟩ := x K h
  obtain ⟨K2, h2, e2⟩ := y K1 h1
  exact ⟨K2, h2, e1.trans e2⟩
theorem Ex_trans {a b : SC} {e : Bool × Nat} (x : Rc T a b) (y : Ex T b e) : Ex T a e := by
  intro K h
  obtain ⟨K1, h1, e1⟩ := x K h
  exact e1.trans (y K1 h1)
theorem Rc_1 {t t' : SC} (hp : t.1 ≤ 40) (h : scS T t = .inl t') (h2 : t.1 < t'.1) : Rc T t t' := by
  intro K hK
  obtain ⟨K, rfl⟩ : ∃ k, K = k + 1 := ⟨K - 1, by omega⟩
  refine ⟨K, by omega, ?_⟩
  show (match scS T t with | .inl t' => scF T K t' | .inr e => e) = _
  rw [h]
theorem Ex_1 {t : SC} {e : Bool × Nat} (hp : t.1 ≤ 40) (h : scS T t = .inr e) : Ex T t e := by
  intro K hK
  obtain ⟨K, rfl⟩ : ∃ k, K = k + 1 := ⟨K - 1, by omega⟩
  show (match scS T t with | .inl t' => scF T K t' | .inr e => e) = _
  rw [h]
/-- where a part of the grammar ended well: the scanner is there, or it has found a number that is too long -/
def Ok1 (T : List Int32) (t : SC) (p : Nat) (M : List (Int32 × Nat)) : Prop := Rc T t (p, M, false) ∨ (isD (cat T p) = true ∧ Ex T t (false, p))
theorem Ok1_go {t : SC} {p p' : Nat} {M : List (Int32 × Nat)} (h : Ok1 T t p M) (h2 : Rc T (p, M, false) (p', M, false)) (h3 : isD (cat T p) = true → p' = p) : Ok1 T t p' M := by
  rcases h with h | ⟨h, e⟩
  · exact Or.inl (Rc_trans h h2)
  · have := h3 h; subst this; exact Or.inr ⟨h, e⟩
theorem D_ne {x : Int32} (h : isD x = true) : ¬ x = 43 ∧ ¬ x = 45 ∧ ¬ x = 42 ∧ ¬ x = 46 ∧ ¬ x = 41 ∧ ¬ x = 93 ∧ ¬ x = 44 ∧ ¬ x = 59 := by
  unfold isD at h
  simp only [Bool.and_eq_true, decide_eq_true_eq] at h
  obtain ⟨a, b⟩ := h
  refine ⟨?_, ?_, ?_, ?_, ?_, ?_, ?_, ?_⟩ <;> rintro rfl
  · exact absurd a (by decide)
  · exact absurd a (by decide)
  · exact absurd a (by decide)
  · exact absurd a (by decide)
  · exact absurd a (by decide)
  · exact absurd b (by decide)
  · exact absurd a (by decide)
  · exact absurd b (by decide)
theorem L_ne {x : Int32} (h : isL x = true) : ¬ isD x = true ∧ ¬ x = 63 ∧ ¬ x = 64 ∧ ¬ x = 35 ∧ ¬ x = 40 ∧ ¬ x = 91 := by
  unfold isL at h
  unfold isD
  simp only [Bool.and_eq_true, decide_eq_true_eq] at h ⊢
  obtain ⟨a, b⟩ := h
  refine ⟨?_, ?_, ?_, ?_, ?_, ?_⟩
  · rintro ⟨c, d⟩; grind
  all_goals (rintro rfl; exact absurd a (by decide))
/-- what must follow a part that ended well -/
def nop (T : List Int32) (w : Nat) (p : Nat) : Prop := (w ≤ 2 ∨ 5 ≤ w → ¬ cat T p = 46) ∧ (w ≤ 1 ∨ w = 5 ∨ w = 6 → ¬ cat T p = 42) ∧ (w = 0 ∨ w = 5 → ¬ cat T p = 43 ∧ ¬ cat T p = 45)
/-- what is claimed: from (p, M, part wanted?) the scanner goes as rR -/
def SR (T : List Int32) (w : Nat) (s : RS) (b : Bool) (s' : RS) : Prop := ∀ M : List (Int32 × Nat), s.1 ≤ T.length →
  (w ≤ 3 → (b = true → Ok1 T (s.1, M, true) s'.1 M ∧ (w ≤ 2 → ¬ cat T s'.1 = 46) ∧ (w ≤ 1 → ¬ cat T s'.1 = 42) ∧ (w = 0 → ¬ cat T s'.1 = 43 ∧ ¬ cat T s'.1 = 45)) ∧ (b = false → Ex T (s.1, M, true) (false, s'.1))) ∧
  (w = 5 → (¬ cat T s.1 = 46) → (¬ cat T s.1 = 42) → (b = true → Ok1 T (s.1, M, false) s'.1 M ∧ (¬ cat T s'.1 = 46) ∧ (¬ cat T s'.1 = 42) ∧ (¬ cat T s'.1 = 43 ∧ ¬ cat T s'.1 = 45)) ∧ (b = false → Ex T (s.1, M, false) (false, s'.1))) ∧
  (w = 6 → (¬ cat T s.1 = 46) → (b = true → Ok1 T (s.1, M, false) s'.1 M ∧ (¬ cat T s'.1 = 46) ∧ (¬ cat T s'.1 = 42)) ∧ (b = false → Ex T (s.1, M, false) (false, s'.1))) ∧
  (w = 7 → (b = true → Ok1 T (s.1, M, false) s'.1 M ∧ (¬ cat T s'.1 = 46)) ∧ (b = false → Ex T (s.1, M, false) (false, s'.1))) ∧
  (8 ≤ w → w ≤ 15 → (b = true → Ok1 T (s.1, (91, w - 7) :: M, true) s'.1 M) ∧ (b = false → Ex T (s.1, (91, w - 7) :: M, true) (false, s'.1)))
end S50
