/-! ===== the model reckons as the class's code: parts and rows ===== -/
section S94
variable {T : List Int32} {c : Nat} {p : DP} {e fe : Nat → Option VL} {nm : Nat → Prop}
theorem xq_1 {k x st : Int32} {P : PM} {r : Int32 × PM} (h : xs p k x P = some r) : xq p [(k, x, st)] P = some r := by
  simp only [xq, h]
  by_cases e0 : r.1 = 0
  · simp only [e0, if_true]
    rw [← e0]
  · simp only [e0, if_false]
theorem xq_2 {k x st : Int32} {C : List ST} {P : PM} {r : Int32 × PM} (h : xs p k x P = some r) : xq p ((k, x, st) :: C) P = xc p C r := by
  simp only [xq, h, xc]
/-- # -/
theorem SE_cnt {a b : Nat} {C1 : List ST} {st : Int32} (hc : cat T a = 35) (A : SEp T c p e fe nm 2 (a + 1) b C1) (h46 : ¬ cat T b = 46) : SEp T c p e fe nm 3 a b (C1 ++ [(8, 0, st)]) := by
  intro O V d hO hV hd
  have so : gR T c p e fe nm (a, O, V, d, true) (a + 1, (35, 1) :: O, V, d, true) := st_open (Or.inl rfl) hc
  obtain ⟨r1, x1, y1, z1, g1⟩ := A ((35, 1) :: O) V d (fun h => absurd rfl h) (by omega) (by omega)
  have ex : xq p (C1 ++ [(8, 0, st)]) (e, V, d) = xc p [(8, 0, st)] r1 := by rw [xq_app, x1]
  rcases g1 with ⟨e1, gx⟩ | ⟨P1, V1, gr, op, fl, n46⟩
  · exact ⟨r1, by rw [ex]; exact xc_err e1, fun h => absurd h e1, z1, Or.inl ⟨e1, gX_trans so gx⟩⟩
  · have hq : ∃ r2, xc p [(8, 0, st)] r1 = some r2 ∧ r2.2.2.2 = r1.2.2.2 ∧ (r2.1 = 0 → ∃ v, r2.2 = (e, v :: V, r1.2.2.2)) := by
      by_cases e1 : r1.1 = 0
      · obtain ⟨v1, ev⟩ := y1 e1
        obtain ⟨r2, b1, b2, b3⟩ := xs_un (p := p) (e := e) (v1 := v1) (V0 := V) (d := r1.2.2.2)
        have e2 : xs p 8 0 r1.2 = some r2 := by rw [ev]; exact b1
        refine ⟨r2, ?_, b2, b3⟩
        unfold xc
        rw [if_pos e1]
        exact xq_1 e2
      · exact ⟨r1, xc_err e1, rfl, fun h => absurd h e1⟩
    obtain ⟨r2, q1, q2, q3⟩ := hq
    have fl' : fls p (P1 ++ [(35, 1)]) (e, V1, r1.2.2.2) = some r2 := by rw [fls_snoc (st := st) fl (by decide : ock 35 = 8)]; exact q1
    refine ⟨r2, by rw [ex]; exact q1, fun h => ?_, by rw [q2]; exact z1, Or.inr ⟨P1 ++ [(35, 1)], V1, ?_, ?_, by rw [q2]; exact fl', fun _ => h46⟩⟩
    · obtain ⟨v, ev⟩ := q3 h
      exact ⟨v, by rw [q2]; exact ev⟩
    · rw [q2, List.append_assoc]
      exact gR_trans so gr
    · intro x hx
      rcases List.mem_append.mp hx with hx | hx
      · exact op x hx
      · have : x = (35, 1) := by simpa using hx
        subst this
        exact ⟨Or.inl rfl, by decide⟩
/-- ( ) -/
theorem SE_par {a b : Nat} {C1 : List ST} (hc : cat T a = 40) (hc2 : cat T b = 41) (A : SEp T c p e fe nm 0 (a + 1) b C1) : SEp T c p e fe nm 3 a (b + 1) C1 := by
  intro O V d hO hV hd
  have so : gR T c p e fe nm (a, O, V, d, true) (a + 1, (40, 1) :: O, V, d, true) := st_open (Or.inr (Or.inl rfl)) hc
  obtain ⟨r1, x1, y1, z1, g1⟩ := A ((40, 1) :: O) V d (fun _ x O' h => by cases h; exact (by decide : v_201 40 < 1)) (by omega) (by omega)
  rcases g1 with ⟨e1, gx⟩ | ⟨P1, V1, gr, op, fl, n46⟩
  · exact ⟨r1, x1, y1, by omega, Or.inl ⟨e1, gX_trans so gx⟩⟩
  · have op1 : opsN 1 P1 := op
    obtain ⟨s1, s2⟩ := st_par (T := T) (c := c) (fe := fe) (nm := nm) (k := 1) (O := O) hc2 op1 fl
    by_cases e1 : r1.1 = 0
    · obtain ⟨v, ev⟩ := y1 e1
      refine ⟨r1, x1, y1, by omega, Or.inr ⟨[], r1.2.2.1, gR_trans so (gR_trans gr (s1 e1)), fun x hx => (by cases hx), ?_, fun h => absurd rfl h⟩⟩
      show some ((0 : Int32), (e, r1.2.2.1, r1.2.2.2)) = some r1
      have : ((e, r1.2.2.1, r1.2.2.2) : PM) = r1.2 := by rw [ev]
      rw [this, ← e1]
    · exact ⟨r1, x1, y1, by omega, Or.inl ⟨e1, gX_trans so (gX_trans gr (s2 e1))⟩⟩
/-- [ -/
theorem SE_row {a b : Nat} {C1 : List ST} (hc : cat T a = 91) (A : SEw T c p e fe nm 8 (a + 1) b C1) : SEp T c p e fe nm 3 a b C1 := by
  intro O V d hO hV hd
  have so : gR T c p e fe nm (a, O, V, d, true) (a + 1, (91, 1) :: O, V, d, true) := st_open (Or.inr (Or.inr rfl)) hc
  obtain ⟨r, x1, y1, z1, g1⟩ := A O V d [] rfl (Nat.zero_le _) (by omega) (by omega)
  exact ⟨r, x1, y1, z1, GO_trans so g1⟩
theorem xs_9 {v : VL} {V : List VL} {d : DR} : xs p 9 0 (e, v :: V, d) = some (if vNum (some v) = true then 0 else 2, e, v :: V, d) := by
  cases v with
  | inl x => rfl
  | inr l => rfl
/-- the last item and ] -/
theorem SE_end {w a b : Nat} {C1 : List ST} {st st2 : Int32} (h8 : 8 ≤ w) (h15 : w ≤ 15) (hc : cat T b = 93) (A : SEp T c p e fe nm 0 a b C1) : SEw T c p e fe nm w a (b + 1) (C1 ++ [(9, 0, st), (10, Int32.ofNat (w - 7), st2)]) := by
  intro O V d l0 hl0 hwl hV hd
  obtain ⟨r1, x1, y1, z1, g1⟩ := A ((91, w - 7) :: O) V d (fun _ x O' h => by cases h; exact (by decide : v_201 91 < 1)) hV hd
  have ex : xq p (C1 ++ [(9, 0, st), (10, Int32.ofNat (w - 7), st2)]) (e, V, d) = xc p [(9, 0, st), (10, Int32.ofNat (w - 7), st2)] r1 := by rw [xq_app, x1]
  rcases g1 with ⟨e1, gx⟩ | ⟨P1, V1, gr, op, fl, n46⟩
  · exact ⟨r1, by rw [ex]; exact xc_err e1, fun h => absurd h e1, by omega, Or.inl ⟨e1, gx⟩⟩
  · have op1 : opsN 1 P1 := op
    obtain ⟨s1, s2⟩ := st_rend (T := T) (c := c) (fe := fe) (nm := nm) (k := w - 7) (O := O) (by omega) (by omega) hc op1 fl
    by_cases e1 : r1.1 = 0
    · obtain ⟨v, ev⟩ := y1 e1
      have ev1 : r1.2.2.1 = v :: V := by rw [ev]
      have x9 : xs p 9 0 r1.2 = some (if vNum (some v) = true then 0 else 2, e, v :: V, r1.2.2.2) := by rw [ev]; exact xs_9
      obtain ⟨s3, s4⟩ := s2 v V e1 ev1
      cases v with
      | inl x =>
        have hlv : nums (List.take (w - 7) (.inl x :: V)) = some (x :: l0) := by
          rw [show w - 7 = (w - 8) + 1 by omega, List.take_succ_cons]
          simp only [nums, hl0, Option.map_some]
        rw [ev1] at s3
        have s := s3 (x :: l0) hlv (by rw [List.length_cons]; omega)
        have x10 := xs_10 (p := p) (e := e) (d := r1.2.2.2) (n := w - 7) (V := .inl x :: V) (by omega) (by omega) (by rw [List.length_cons]; omega) hlv
        have hdrop : List.drop (w - 7) (.inl x :: V) = V.drop (w - 8) := by
          rw [show w - 7 = (w - 8) + 1 by omega, List.drop_succ_cons]
        rw [hdrop] at s x10
        refine ⟨(0, e, .inr (x :: l0).reverse :: V.drop (w - 8), r1.2.2.2), ?_, fun _ => ⟨_, rfl⟩, by show r1.2.2.2.1 ≤ b + 1; omega, Or.inr ⟨[], .inr (x :: l0).reverse :: V.drop (w - 8), gR_trans gr s, fun x hx => (by cases hx), rfl, fun h => absurd rfl h⟩⟩
        rw [ex]
        unfold xc
        rw [if_pos e1, xq_2 x9]
        show xc p [(10, Int32.ofNat (w - 7), st2)] (0, e, .inl x :: V, r1.2.2.2) = _
        unfold xc
        rw [if_pos rfl]
        exact xq_1 x10
      | inr l =>
        have s := s4 ⟨l, rfl⟩
        refine ⟨(2, e, .inr l :: V, r1.2.2.2), ?_, fun h => absurd h (show ¬ (2 : Int32) = 0 by decide), by show r1.2.2.2.1 ≤ b + 1; omega, Or.inl ⟨show ¬ (2 : Int32) = 0 by decide, gX_trans gr s⟩⟩
        rw [ex]
        unfold xc
        rw [if_pos e1, xq_2 x9]
        exact xc_err (show ¬ (2 : Int32) = 0 by decide)
    · exact ⟨r1, by rw [ex]; exact xc_err e1, fun h => absurd h e1, by omega, Or.inl ⟨e1, gX_trans gr (s1 e1)⟩⟩
/-- an item and , -/
theorem SE_com {w a m b : Nat} {C1 C2 : List ST} {st : Int32} (h8 : 8 ≤ w) (h15 : w < 15) (hc : cat T m = 44) (A : SEp T c p e fe nm 0 a m C1) (B : SEw T c p e fe nm (w + 1) (m + 1) b C2) (ham : a < m) (hmb : m + 1 ≤ b) : SEw T c p e fe nm w a b (C1 ++ ((9, 0, st) :: C2)) := by
  intro O V d l0 hl0 hwl hV hd
  obtain ⟨r1, x1, y1, z1, g1⟩ := A ((91, w - 7) :: O) V d (fun _ x O' h => by cases h; exact (by decide : v_201 91 < 1)) hV hd
  have ex : xq p (C1 ++ ((9, 0, st) :: C2)) (e, V, d) = xc p ((9, 0, st) :: C2) r1 := by rw [xq_app, x1]
  rcases g1 with ⟨e1, gx⟩ | ⟨P1, V1, gr, op, fl, n46⟩
  · exact ⟨r1, by rw [ex]; exact xc_err e1, fun h => absurd h e1, by omega, Or.inl ⟨e1, gx⟩⟩
  · have op1 : opsN 1 P1 := op
    obtain ⟨s1, s2⟩ := st_com (T := T) (c := c) (fe := fe) (nm := nm) (k := w - 7) (O := O) (by omega) hc op1 fl
    by_cases e1 : r1.1 = 0
    · obtain ⟨v, ev⟩ := y1 e1
      have ev1 : r1.2.2.1 = v :: V := by rw [ev]
      have x9 : xs p 9 0 r1.2 = some (if vNum (some v) = true then 0 else 2, e, v :: V, r1.2.2.2) := by rw [ev]; exact xs_9
      obtain ⟨s3, s4⟩ := s2 v V e1 ev1
      have e2 : xc p ((9, 0, st) :: C2) r1 = xc p C2 (if vNum (some v) = true then 0 else 2, e, v :: V, r1.2.2.2) := by
        conv => lhs; unfold xc
        rw [if_pos e1]
        exact xq_2 x9
      cases v with
      | inl x =>
        have hlv : nums (List.take (w + 1 - 8) (.inl x :: V)) = some (x :: l0) := by
          rw [show w + 1 - 8 = (w - 8) + 1 by omega, List.take_succ_cons]
          simp only [nums, hl0, Option.map_some]
        obtain ⟨r, x2, y2, z2, g2⟩ := B O (.inl x :: V) r1.2.2.2 (x :: l0) hlv (by rw [List.length_cons]; omega) (by rw [List.length_cons]; omega) (by omega)
        have hdrop : List.drop (w + 1 - 8) (.inl x :: V) = V.drop (w - 8) := by
          rw [show w + 1 - 8 = (w - 8) + 1 by omega, List.drop_succ_cons]
        rw [hdrop] at y2
        have s := s3 ⟨x, rfl⟩
        rw [ev1, show w - 7 + 1 = w + 1 - 7 by omega] at s
        refine ⟨r, ?_, y2, z2, GO_trans gr (GO_trans s g2)⟩
        rw [ex, e2]
        show xc p C2 (0, e, .inl x :: V, r1.2.2.2) = _
        unfold xc
        rw [if_pos rfl]
        exact x2
      | inr l =>
        have s := s4 ⟨l, rfl⟩
        refine ⟨(2, e, .inr l :: V, r1.2.2.2), ?_, fun h => absurd h (show ¬ (2 : Int32) = 0 by decide), by show r1.2.2.2.1 ≤ b; omega, Or.inl ⟨show ¬ (2 : Int32) = 0 by decide, gX_trans gr s⟩⟩
        rw [ex, e2]
        exact xc_err (show ¬ (2 : Int32) = 0 by decide)
    · exact ⟨r1, by rw [ex]; exact xc_err e1, fun h => absurd h e1, by omega, Or.inl ⟨e1, gX_trans gr (s1 e1)⟩⟩
/-- a simple part -/
theorem SE_one {a b : Nat} {k x st : Int32} (hab : a < b) (ha : a ≤ 40) (h : ∀ (O : List (Int32 × Nat)) (V : List VL) (d : DR), V.length < 27 → d.1 ≤ a → ∃ r, xs p k x (e, V, d) = some r ∧ (r.1 = 0 → ∃ v, r.2 = (e, v :: V, r.2.2.2)) ∧ r.2.2.2.1 ≤ b ∧ (r.1 = 0 → gR T c p e fe nm (a, O, V, d, true) (b, O, r.2.2.1, r.2.2.2, false)) ∧ (¬ r.1 = 0 → gX T c p e fe nm (a, O, V, d, true) r.1 r.2.2.2)) : SEp T c p e fe nm 3 a b [(k, x, st)] := by
  intro O V d hO hV hd
  obtain ⟨r, h1, h2, h3, h4, h5⟩ := h O V d (by omega) hd
  refine ⟨r, xq_1 h1, h2, h3, ?_⟩
  by_cases e1 : r.1 = 0
  · obtain ⟨v, ev⟩ := h2 e1
    refine Or.inr ⟨[], r.2.2.1, h4 e1, fun x hx => (by cases hx), ?_, fun h => absurd rfl h⟩
    show some ((0 : Int32), (e, r.2.2.1, r.2.2.2)) = some r
    have : ((e, r.2.2.1, r.2.2.2) : PM) = r.2 := by rw [ev]
    rw [this, ← e1]
  · exact Or.inl ⟨e1, h5 e1⟩
end S94
