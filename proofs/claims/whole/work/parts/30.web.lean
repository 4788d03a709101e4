/-! ===== the class's web: needs, definers and changers of a name ===== -/
def anyb (f : Nat → Bool) : Nat → Bool
  | 0 => false
  | i + 1 => anyb f i || f i
theorem anyb_iff {f : Nat → Bool} : ∀ n, anyb f n = true ↔ ∃ i, i < n ∧ f i = true := by
  intro n
  induction n with
  | zero => simp [anyb]
  | succ n ih =>
    simp only [anyb, Bool.or_eq_true, ih]
    constructor
    · rintro (⟨i, a, b⟩ | b)
      · exact ⟨i, by omega, b⟩
      · exact ⟨n, by omega, b⟩
    · rintro ⟨i, a, b⟩
      by_cases h : i = n
      · subst h; exact Or.inr b
      · exact Or.inl ⟨i, by omega, b⟩
theorem anyb_congr {f g : Nat → Bool} : ∀ n, (∀ i, i < n → f i = g i) → anyb f n = anyb g n := by
  intro n
  induction n with
  | zero => intro _; rfl
  | succ n ih => intro h; grind [anyb]
theorem s_80 {h : Hp} {c : Nat} {u : Int32} {df ch : Nat → Nat → Bool} (hc : c < 16) (hd : ∀ x, x < 26 → ∀ i, bt (h 12 x) i = df x i) (hh : ∀ x, x < 26 → ∀ i, bt (h 13 x) i = ch x i) (h16 : ∀ x i, 16 ≤ i → ch x i = false) : ok (p_80 h (Int32.ofNat c) u) (fun r => ∀ j, j < 32 → bt r j = anyb (fun x => bt u x && gvb (df x) (ch x) c j) 26) := by
  unfold p_80
  refine ok_for (fun i s => s.2 = Int32.ofNat i ∧ ∀ j, j < 32 → bt s.1 j = anyb (fun x => bt u x && gvb (df x) (ch x) c j) i) 26 ⟨rfl, fun j _ => bt_zero j⟩ (by decide) ?_ ?_
  · rintro i ⟨a, b⟩ hi ⟨e, hb⟩
    simp only at e hb
    subst e
    obtain ⟨r, hr, hrb⟩ := s_81 hc hi (hd i hi) (hh i hi) (h16 i)
    simp only [l_80_4]
    refine ok_T ((u_ltL (by omega) (by decide)).mpr hi) ?_
    rw [u_has (by omega), u_addL]
    cases hu : bt u i with
    | true =>
      refine ok_F (by decide) (ok_bE hr (ok_some ⟨rfl, fun j hj => ?_⟩))
      simp only [bt_or, hb j hj, hrb j hj, anyb, hu, Bool.true_and]
    | false =>
      refine ok_T (by decide) (ok_some ⟨rfl, fun j hj => ?_⟩)
      simp only [bt_or, hb j hj, anyb, hu, bt_zero, Bool.false_and]
  · rintro ⟨a, b⟩ ⟨e, hb⟩
    simp only at e hb
    subst e
    simp only [l_80_4]
    exact ok_F (by decide) (ok_some hb)
theorem u_S (a : Nat) : Int32.ofNat a + 1 = Int32.ofNat (a + 1) := u_addL a 1
theorem u_b01 {α : Type} {b : Bool} {x y : α} : (if (if b = true then (1 : Int32) else 0) = 0 then x else y) = if b = true then y else x := by cases b <;> rfl
theorem w_up_self {h : Hp} {q b : Nat} : w_up h q b (h q b) = h := by
  funext q' b'; grind [w_upD]
theorem w_up_up {h : Hp} {q b : Nat} {x y : Int32} : w_up (w_up h q b x) q b y = w_up h q b y := by
  funext q' b'; grind [w_upD]
theorem w_up_cm {h : Hp} {q b q' b' : Nat} {x y : Int32} (hn : q ≠ q') : w_up (w_up h q b x) q' b' y = w_up (w_up h q' b' y) q b x := by
  funext z c; grind [w_upD]
/-- who defines, and who changes, the name x, by the heap -/
def dfh (h : Hp) (n nw x j : Nat) : Bool := (decide (j < n) && bt (h (64 * j + 55) 5) x) || (decide (16 ≤ j) && (decide (j < 16 + nw) && decide (h 5 (j - 16) = Int32.ofNat x)))
def chh (h : Hp) (n x j : Nat) : Bool := decide (j < n) && bt (h (64 * j + 55) 6) x
theorem s_79a {h : Hp} {x n : Nat} (hn : h 11 8 = Int32.ofNat n) (h16 : n ≤ 16) (hx : x < 26) : w_lp (fun (s : Int32 × Hp) => l_79_12 (Int32.ofNat x) s.1 s.2) w_N (0, w_up (w_up h 12 x 0) 13 x 0) = some (w_up (w_up h 12 x (sbo (fun k => bt (h (64 * k + 55) 5) x) 0 n)) 13 x (sbo (fun k => bt (h (64 * k + 55) 6) x) 0 n)) := by
  refine u_for (fun i => (Int32.ofNat i, w_up (w_up h 12 x (sbo (fun k => bt (h (64 * k + 55) 5) x) 0 i)) 13 x (sbo (fun k => bt (h (64 * k + 55) 6) x) 0 i))) n (by unfold w_N; omega) ?_ ?_
  · intro i hi
    have e : ∀ a b a' b', w_up (w_up (w_up (w_up h 12 x a) 13 x b) 12 x a') 13 x b' = w_up (w_up h 12 x a') 13 x b' := by
      intro a b a' b'; funext z c; grind [w_upD]
    simp (disch := omega) only [l_79_12, q_79_34, w_let, w_up_q, w_up_at, u_cl, u_ix, w_gd, hn, u_lt, hi, if_true, u_has, u_S, u_b01, e, sbo, Nat.zero_add]
  · simp (disch := omega) only [l_79_12, w_up_q, hn, Nat.lt_irrefl, u_lt, if_false]
theorem s_79b {h : Hp} {x nw : Nat} {a : Int32} (hw : h 4 7 = Int32.ofNat nw) (h4 : nw ≤ 4) (hx : x < 26) : w_lp (fun (s : Int32 × Hp) => l_79_60 (Int32.ofNat x) s.1 s.2) w_N (0, w_up h 12 x a) = some (w_up h 12 x (a ||| sbo (fun k => decide (h 5 k = Int32.ofNat x)) 16 nw)) := by
  have ha : a = a ||| sbo (fun k => decide (h 5 k = Int32.ofNat x)) 16 0 := by
    apply bt_ext; intro i _; rw [bt_or]; simp only [sbo, bt_zero, Bool.or_false]
  rw [show w_up h 12 x a = w_up h 12 x (a ||| sbo (fun k => decide (h 5 k = Int32.ofNat x)) 16 0) by rw [← ha]]
  refine u_for (fun i => (Int32.ofNat i, w_up h 12 x (a ||| sbo (fun k => decide (h 5 k = Int32.ofNat x)) 16 i))) nw (by unfold w_N; omega) ?_ ?_
  · intro i hi
    have e16 : (16 : Int32) + Int32.ofNat i = Int32.ofNat (16 + i) := u_add 16 i
    simp (disch := omega) only [l_79_60, w_let, w_up_q, w_up_at, u_cl, u_ix, w_gd, hw, u_lt, hi, if_true, u_S, w_up_up, sbo, e16, decide_eq_true_eq, Int32.or_assoc]
  · simp (disch := omega) only [l_79_60, w_up_q, hw, Nat.lt_irrefl, u_lt, if_false]
