/-! ===== the prologue: from the law's entry to its first round ===== -/
def la_veq : Value → Value → Bool
  | .int a, .int b => a == b
  | .long a, .long b => a == b
  | .ref a, .ref b => a == b
  | .null, .null => true
  | _, _ => false
theorem la_veqE : ∀ {u v : Value}, la_veq u v = true → u = v := by
  intro u v h
  unfold la_veq at h
  split at h
  · rw [beq_iff_eq.mp h]
  · rw [beq_iff_eq.mp h]
  · rw [beq_iff_eq.mp h]
  · rfl
  · cases h
def la_leq : List Value → List Value → Bool
  | [], [] => true
  | u :: us, v :: vs => la_veq u v && la_leq us vs
  | _, _ => false
theorem la_leqE : ∀ {us vs : List Value}, la_leq us vs = true → us = vs := by
  intro us
  induction us with
  | nil => intro vs h; cases vs with
    | nil => rfl
    | cons => cases h
  | cons u us ih => intro vs h; cases vs with
    | nil => cases h
    | cons v vs =>
      simp only [la_leq, Bool.and_eq_true] at h
      rw [la_veqE h.1, ih h.2]
def la_ceq : List jE → List jE → Bool
  | [], [] => true
  | c :: cs, e :: es => (c.1 == e.1 && la_leq c.2 e.2) && la_ceq cs es
  | _, _ => false
theorem la_ceqE : ∀ {us vs : List jE}, la_ceq us vs = true → us = vs := by
  intro us
  induction us with
  | nil => intro vs h; cases vs with
    | nil => rfl
    | cons => cases h
  | cons u us ih => intro vs h; cases vs with
    | nil => cases h
    | cons v vs =>
      obtain ⟨a, b⟩ := u; obtain ⟨c, d⟩ := v
      simp only [la_ceq, Bool.and_eq_true, beq_iff_eq] at h
      obtain ⟨⟨rfl, h1⟩, h2⟩ := h
      rw [la_leqE h1, ih h2]
def la_new (t : Nat) (m : jM) : jM := j_push m (t, (List.range (j_N t)).map (fun k => defaultValue (j_fty t k))) (j_N t)
def la_m1 : jM := la_new 11 j_m0
def la_chk1 : Bool := match j_go jP [] 20000 200 96 (0, j_ent 2 [.ref 1], []) la_m1 with
  | some (.inl none, m) => m.1 == 1076 && m.2.2.1
  | _ => false
set_option maxRecDepth 1000000 in
set_option maxHeartbeats 4000000 in
theorem la_chk1_ok : la_chk1 = true := by decide +kernel
