/-! ===== what the constructors left is the table (printed by wip/whole/genpro.py) ===== -/
def w_z : Hp := fun _ _ => 0
section SD2
variable {s q n : Nat} {h h2 : Hp}
theorem w_from_app : ∀ (T U : List (Nat × Nat × List Nat)) (q : Nat), w_from h q (T ++ U) = w_from h q T ++ w_from h (q + T.length) U := by
  intro T
  induction T with
  | nil => intro U q; rfl
  | cons e T ih =>
    intro U q
    obtain ⟨t, n, ks⟩ := e
    show (t, w_slots q n ks h) :: w_from h (q + 1) (T ++ U) = _
    rw [ih, show q + 1 + T.length = q + ((t, n, ks) :: T).length by simp; omega]
    rfl
theorem w_from_eq : ∀ (T : List (Nat × Nat × List Nat)) (q : Nat), (∀ z b, q ≤ z → z < q + T.length → h z b = h2 z b) → w_from h q T = w_from h2 q T := by
  intro T
  induction T with
  | nil => intro q _; rfl
  | cons e T ih =>
    intro q H
    obtain ⟨t, n, ks⟩ := e
    show (t, w_slots q n ks h) :: w_from h (q + 1) T = (t, w_slots q n ks h2) :: w_from h2 (q + 1) T
    rw [ih (q + 1) (fun z b h1 h3 => H z b (by omega) (by simp; omega))]
    have : w_slots q n ks h = w_slots q n ks h2 := by
      unfold w_slots
      refine List.map_congr_left (fun b _ => ?_)
      rw [H q b (Nat.le_refl _) (by simp)]
    rw [this]
theorem zs_0 : w_slots q n [] w_z = List.replicate n (.int 0) := by
  unfold w_slots
  rw [show (fun b => w_val (([] : List Nat).getD b 0) (w_z q b)) = (fun _ => Value.int 0) from rfl, List.map_const', List.length_range]
def tc_55 (s : Nat) : List (Nat × Nat × List Nat) := (7, 2, [s + 5, 0]) :: ([] ++ [(51, 40, [])])
theorem tw_55 : rc_55 s = w_from w_z s (tc_55 s) := by
  unfold rc_55 tc_55
  show List.cons _ _ = List.cons (_, w_slots s _ _ w_z) (w_from w_z (s + 1) _)
  refine congr (congrArg List.cons rfl) ?_
  rw [w_from_app]
  try simp only [w_from, zs_0]
  all_goals rfl
def tc_62 (s : Nat) : List (Nat × Nat × List Nat) := (8, 2, [s + 5, s + 6]) :: (([] ++ [(50, 27, [])]) ++ [(50, 216, [])])
theorem tw_62 : rc_62 s = w_from w_z s (tc_62 s) := by
  unfold rc_62 tc_62
  show List.cons _ _ = List.cons (_, w_slots s _ _ w_z) (w_from w_z (s + 1) _)
  refine congr (congrArg List.cons rfl) ?_
  rw [w_from_app, w_from_app]
  try simp only [w_from, zs_0]
  all_goals rfl
def tc_7 (s : Nat) : List (Nat × Nat × List Nat) := (1, 8, [s + 5, s + 6, s + 7, 0, 0, 0, 0, 0]) :: ((([] ++ [(50, 41, [])]) ++ [(50, 41, [])]) ++ [(50, 41, [])])
theorem tw_7 : rc_7 s = w_from w_z s (tc_7 s) := by
  unfold rc_7 tc_7
  show List.cons _ _ = List.cons (_, w_slots s _ _ w_z) (w_from w_z (s + 1) _)
  refine congr (congrArg List.cons rfl) ?_
  rw [w_from_app, w_from_app, w_from_app]
  try simp only [w_from, zs_0]
  all_goals rfl
def tc_11 (s : Nat) : List (Nat × Nat × List Nat) := (2, 3, [s + 5, s + 7, 0]) :: (([] ++ tc_55 (s + 1)) ++ [(50, 40, [])])
theorem tw_11 : rc_11 s = w_from w_z s (tc_11 s) := by
  unfold rc_11 tc_11
  rw [tw_55 (s := s + 1)]
  show List.cons _ _ = List.cons (_, w_slots s _ _ w_z) (w_from w_z (s + 1) _)
  refine congr (congrArg List.cons rfl) ?_
  rw [w_from_app, w_from_app]
  try simp only [w_from, zs_0]
  all_goals rfl
def tc_12 (s : Nat) : List (Nat × Nat × List Nat) := (3, 3, [s + 5, s + 7, s + 10]) :: ((([] ++ tc_55 (s + 1)) ++ tc_62 (s + 3)) ++ tc_62 (s + 6))
theorem tw_12 : rc_12 s = w_from w_z s (tc_12 s) := by
  unfold rc_12 tc_12
  rw [tw_55 (s := s + 1), tw_62 (s := s + 3), tw_62 (s := s + 6)]
  show List.cons _ _ = List.cons (_, w_slots s _ _ w_z) (w_from w_z (s + 1) _)
  refine congr (congrArg List.cons rfl) ?_
  rw [w_from_app, w_from_app, w_from_app]
  try simp only [w_from, zs_0]
  all_goals rfl
def tc_0 (s : Nat) : List (Nat × Nat × List Nat) := ((0, 17, [s + 5, s + 7, s + 11, s + 14, s + 17, s + 21, s + 30, s + 31, 0, 0, 0, 0, 0, 0, 0, 0, 0]) :: (((((([] ++ tc_55 (s + 1)) ++ tc_7 (s + 3)) ++ tc_62 (s + 7)) ++ tc_62 (s + 10)) ++ tc_11 (s + 13)) ++ tc_12 (s + 17))) ++ (62, 4, [s + 32, s + 41, s + 50, s + 59]) :: (((([(50, 4, [])] ++ tc_12 (s + 28)) ++ tc_12 (s + 37)) ++ tc_12 (s + 46)) ++ tc_12 (s + 55))
theorem tw_0 : rc_0 s = w_from w_z s (tc_0 s) := by
  unfold rc_0 rp_0 tc_0
  rw [tw_11 (s := s + 13), tw_12 (s := s + 17), tw_12 (s := s + 28), tw_12 (s := s + 37), tw_12 (s := s + 46), tw_12 (s := s + 55), tw_55 (s := s + 1), tw_62 (s := s + 10), tw_62 (s := s + 7), tw_7 (s := s + 3)]
  rw [w_from_app]
  refine congr (congrArg HAppend.hAppend ?_) ?_
  · show List.cons _ _ = List.cons (_, w_slots s _ _ w_z) (w_from w_z (s + 1) _)
    refine congr (congrArg List.cons rfl) ?_
    rw [w_from_app, w_from_app, w_from_app, w_from_app, w_from_app, w_from_app]
    try simp only [w_from, zs_0]
    all_goals rfl
  · show List.cons _ _ = List.cons (_, w_slots _ _ _ w_z) (w_from w_z (_ + 1) _)
    refine congr (congrArg List.cons rfl) ?_
    rw [w_from_app, w_from_app, w_from_app, w_from_app]
    try simp only [w_from, zs_0]
    all_goals rfl
end SD2
