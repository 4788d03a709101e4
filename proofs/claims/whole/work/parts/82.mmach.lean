/-! ===== the model's machine: the pending operators ===== -/
/-- the step that an operator stands for -/
def ock (x : Int32) : Int32 := if x = 35 then 8 else if x = 43 then 4 else if x = 45 then 5 else 6
/-- the pending operators are applied, the top one first: error and state -/
def fls (p : DP) : List (Int32 × Nat) → PM → Option (Int32 × PM)
  | [], P => some (0, P)
  | a :: O, P => match xs p (ock a.1) 0 P with
    | none => none
    | some r => if r.1 = 0 then fls p O r.2 else some r
def isO (x : Int32) : Prop := x = 35 ∨ x = 43 ∨ x = 45 ∨ x = 42
section S82
variable {m m' : Hp} {p : DP}
theorem m_200 {O : List (Int32 × Nat)} {x : Int32} {c : Nat} {V : List VL} {e : Nat → Option VL} {d : DR} {r : Int32 × PM} (hi : isO x) (HO : mk m ((x, c) :: O)) (hO : O.length < 80) (h70 : m 1076 70 = Int32.ofNat (O.length + 1)) (HV : mvs m V) (hV : V.length ≤ 27) (h72 : m 1076 72 = Int32.ofNat V.length) (h75 : m 1076 75 = 0) (h76 : m 1076 76 < 0) (hx : xs p (ock x) 0 (e, V, d) = some r) : ∃ m', p_200 m = some m' ∧ m' 1076 70 = Int32.ofNat O.length ∧ mk m' O ∧ apf m m' ∧ (r.1 = 0 → mvs m' r.2.2.1 ∧ m' 1076 72 = Int32.ofNat r.2.2.1.length ∧ m' 1076 75 = 0 ∧ m' 1076 76 < 0) ∧ (¬ r.1 = 0 → m' 1076 75 = r.1 ∧ m' 1076 76 = m 1076 80) := by
  rcases hi with rfl | rfl | rfl | rfl
  · exact m_200n HO hO h70 HV hV h72 h75 h76 hx
  · exact m_200b (Or.inl ⟨rfl, rfl⟩) HO hO h70 HV hV h72 h75 h76 hx
  · exact m_200b (Or.inr (Or.inl ⟨rfl, rfl⟩)) HO hO h70 HV hV h72 h75 h76 hx
  · exact m_200b (Or.inr (Or.inr ⟨rfl, rfl⟩)) HO hO h70 HV hV h72 h75 h76 hx
theorem xs_st {k : Int32} {P : PM} {r : Int32 × PM} (hk : k = 8 ∨ k = 4 ∨ k = 5 ∨ k = 6) (hx : xs p k 0 P = some r) : r.2.1 = P.1 ∧ r.2.2.2 = P.2.2 ∧ r.2.2.1.length ≤ P.2.1.length := by
  obtain ⟨e, V, d⟩ := P
  have hd := xs_dr (by rcases hk with rfl | rfl | rfl | rfl <;> decide) hx
  rcases hk with rfl | hk
  · have hx2 : (match ((e, V, d) : PM).2.1 with
      | .inr l :: st => some (0, e, .inl (Int32.ofNat l.length) :: st, d)
      | .inl _ :: _ => some (2, e, V, d)
      | [] => none : Option (Int32 × PM)) = some r := hx
    cases V with
    | nil =>
      have hx3 : (none : Option (Int32 × PM)) = some r := hx2
      cases hx3
    | cons v st =>
      cases v with
      | inl n =>
        have hx3 : some ((2 : Int32), e, .inl n :: st, d) = some r := hx2
        cases hx3; exact ⟨rfl, rfl, Nat.le_refl _⟩
      | inr l =>
        have hx3 : some ((0 : Int32), e, .inl (Int32.ofNat l.length) :: st, d) = some r := hx2
        cases hx3; exact ⟨rfl, rfl, Nat.le_refl _⟩
  · have hx2 : (match ((e, V, d) : PM).2.1 with
      | .inl b :: .inl a :: st => some (0, e, .inl (opr k a b) :: st, d)
      | _ :: _ :: _ => some (2, e, V, d)
      | _ => none : Option (Int32 × PM)) = some r := by
      rw [← hx]
      rcases hk with rfl | rfl | rfl <;> rfl
    cases V with
    | nil =>
      have hx3 : (none : Option (Int32 × PM)) = some r := hx2
      cases hx3
    | cons w V1 =>
      cases V1 with
      | nil =>
        have hx3 : (none : Option (Int32 × PM)) = some r := by cases w <;> exact hx2
        cases hx3
      | cons v st =>
        have two : r = (2, e, w :: v :: st, d) → r.2.1 = e ∧ r.2.2.2 = d ∧ r.2.2.1.length ≤ (w :: v :: st).length := by
          rintro rfl; exact ⟨rfl, rfl, Nat.le_refl _⟩
        cases w with
        | inr l =>
          have hx3 : some ((2 : Int32), e, .inr l :: v :: st, d) = some r := hx2
          exact two (by cases hx3; rfl)
        | inl b =>
          cases v with
          | inr l =>
            have hx3 : some ((2 : Int32), e, .inl b :: .inr l :: st, d) = some r := hx2
            exact two (by cases hx3; rfl)
          | inl a =>
            have hx3 : some ((0 : Int32), e, .inl (opr k a b) :: st, d) = some r := hx2
            cases hx3; exact ⟨rfl, rfl, by simp⟩
end S82
