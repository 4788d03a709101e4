/-! ===== the model reckons as the class's code: how parts are put together ===== -/
/-- a run of a code: its error and the state -/
def xq (p : DP) : List ST → PM → Option (Int32 × PM)
  | [], P => some (0, P)
  | a :: C, P => match xs p a.1 a.2.1 P with
    | none => none
    | some r => if r.1 = 0 then xq p C r.2 else some r
def xc (p : DP) (C : List ST) (r : Int32 × PM) : Option (Int32 × PM) := if r.1 = 0 then xq p C r.2 else some r
theorem xq_app {p : DP} : ∀ (C D : List ST) (P : PM), xq p (C ++ D) P = match xq p C P with
    | none => none
    | some r => xc p D r := by
  intro C
  induction C with
  | nil => intro D P; simp [xq, xc]
  | cons a C ih =>
    intro D P
    rw [List.cons_append]
    simp only [xq]
    cases hx : xs p a.1 a.2.1 P with
    | none => rfl
    | some r =>
      by_cases e : r.1 = 0
      · simp only [e, if_true]; exact ih D r.2
      · simp only [e, if_false, xc]
theorem xr_xq {p : DP} {st : Int32} : ∀ (C : List ST) (P : PM), (∀ a ∈ C, a.2.2 = st) → xr p C P = match xq p C P with
    | none => none
    | some r => some (r.1, if r.1 = 0 then 0 else st, r.2) := by
  intro C
  induction C with
  | nil => intro P _; simp [xr, xq]
  | cons a C ih =>
    intro P h
    simp only [xr, xq]
    cases hx : xs p a.1 a.2.1 P with
    | none => rfl
    | some r =>
      by_cases e : r.1 = 0
      · simp only [e, if_true]; exact ih r.2 (fun x hx => h x (List.mem_cons_of_mem _ hx))
      · simp only [e, if_false]
        rw [h a (List.mem_cons_self ..)]
def lv (w : Nat) : Int32 := if w = 0 ∨ w = 5 then 1 else if w = 1 ∨ w = 6 then 2 else 3
section S93
variable (T : List Int32) (c : Nat) (p : DP) (e fe : Nat → Option VL) (nm : Nat → Prop)
/-- from t the loop fails with r's error, or comes to b with pending operators that give r -/
def GO (t : MS) (b : Nat) (O : List (Int32 × Nat)) (n : Int32) (r : Int32 × PM) : Prop := (¬ r.1 = 0 ∧ gX T c p e fe nm t r.1 r.2.2.2) ∨ ∃ P V1, gR T c p e fe nm t (b, P ++ O, V1, r.2.2.2, false) ∧ opsN n P ∧ fls p P (e, V1, r.2.2.2) = some r ∧ (P ≠ [] → ¬ cat T b = 46)
def SEp (w a b : Nat) (C : List ST) : Prop := ∀ (O : List (Int32 × Nat)) (V : List VL) (d : DR), (¬ lv w = 3 → low (lv w) O) → 2 * V.length ≤ a → d.1 ≤ a → ∃ r, xq p C (e, V, d) = some r ∧ (r.1 = 0 → ∃ v, r.2 = (e, v :: V, r.2.2.2)) ∧ r.2.2.2.1 ≤ b ∧ GO T c p e fe nm (a, O, V, d, true) b O (lv w) r
def SEr (w a b : Nat) (C : List ST) : Prop := ∀ (O P : List (Int32 × Nat)) (V : List VL) (d : DR) (r0 : Int32 × PM) (V0 : List VL), (¬ lv w = 3 → low (lv w) O) → opsN (lv w) P → fls p P (e, V, d) = some r0 → (r0.1 = 0 → ∃ v0, r0.2 = (e, v0 :: V0, d)) → 2 * V0.length + 1 ≤ a → d.1 ≤ a → (P ≠ [] → ¬ cat T a = 46) → ∃ r, xc p C r0 = some r ∧ (r.1 = 0 → ∃ v, r.2 = (e, v :: V0, r.2.2.2)) ∧ r.2.2.2.1 ≤ b ∧ GO T c p e fe nm (a, P ++ O, V, d, false) b O (lv w) r
def SEw (w a b : Nat) (C : List ST) : Prop := ∀ (O : List (Int32 × Nat)) (V : List VL) (d : DR) (l0 : List Int32), nums (V.take (w - 8)) = some l0 → w - 8 ≤ V.length → 2 * V.length ≤ a → d.1 ≤ a → ∃ r, xq p C (e, V, d) = some r ∧ (r.1 = 0 → ∃ v, r.2 = (e, v :: V.drop (w - 8), r.2.2.2)) ∧ r.2.2.2.1 ≤ b ∧ GO T c p e fe nm (a, (91, w - 7) :: O, V, d, true) b O 3 r
end S93
section S93b
variable {T : List Int32} {c : Nat} {p : DP} {e fe : Nat → Option VL} {nm : Nat → Prop}
theorem GO_trans {t t' : MS} {b : Nat} {O : List (Int32 × Nat)} {n : Int32} {r : Int32 × PM} (x : gR T c p e fe nm t t') (y : GO T c p e fe nm t' b O n r) : GO T c p e fe nm t b O n r := by
  rcases y with ⟨y1, y2⟩ | ⟨P, V1, y1, y2, y3, y4⟩
  · exact Or.inl ⟨y1, gX_trans x y2⟩
  · exact Or.inr ⟨P, V1, gR_trans x y1, y2, y3, y4⟩
theorem v201_le {x : Int32} : ¬ v_201 x < 0 ∧ v_201 x ≤ 3 := by
  unfold v_201
  by_cases h1 : x = 35
  · rw [if_pos h1]; decide
  rw [if_neg h1]
  by_cases h2 : x = 42
  · rw [if_pos h2]; decide
  rw [if_neg h2]
  by_cases h3 : x = 43
  · rw [if_pos h3]; decide
  rw [if_neg h3]
  by_cases h4 : x = 45
  · rw [if_pos h4]; decide
  rw [if_neg h4]; decide
theorem opsN_mono {n n' : Int32} {P : List (Int32 × Nat)} (h : opsN n P) (hn : n' ≤ n) : opsN n' P := fun a ha => ⟨(h a ha).1, fun hh => (h a ha).2 (Int32.lt_of_lt_of_le hh hn)⟩
theorem low_mono {n n' : Int32} {O : List (Int32 × Nat)} (h : low n O) (hn : n ≤ n') : low n' O := fun a O' ha => Int32.lt_of_lt_of_le (h a O' ha) hn
theorem xc_err {C : List ST} {r : Int32 × PM} (h : ¬ r.1 = 0) : xc p C r = some r := by unfold xc; rw [if_neg h]
theorem SE_two {w w1 w2 a m b : Nat} {C1 C2 : List ST} (hw : (w = 0 ∧ w1 = 1 ∧ w2 = 5) ∨ (w = 1 ∧ w1 = 2 ∧ w2 = 6) ∨ (w = 2 ∧ w1 = 3 ∧ w2 = 7)) (A : SEp T c p e fe nm w1 a m C1) (B : SEr T c p e fe nm w2 m b C2) (ham : a < m) (hmb : m ≤ b) : SEp T c p e fe nm w a b (C1 ++ C2) := by
  intro O V d hO hV hd
  have l2 : lv w2 = lv w := by rcases hw with ⟨rfl, rfl, rfl⟩ | ⟨rfl, rfl, rfl⟩ | ⟨rfl, rfl, rfl⟩ <;> rfl
  have l1 : lv w ≤ lv w1 := by rcases hw with ⟨rfl, rfl, rfl⟩ | ⟨rfl, rfl, rfl⟩ | ⟨rfl, rfl, rfl⟩ <;> decide
  have l3 : ¬ lv w1 = 3 → ¬ lv w = 3 := by rcases hw with ⟨rfl, rfl, rfl⟩ | ⟨rfl, rfl, rfl⟩ | ⟨rfl, rfl, rfl⟩ <;> decide
  obtain ⟨r1, x1, y1, z1, g1⟩ := A O V d (fun h => low_mono (hO (l3 h)) l1) hV hd
  have ex : xq p (C1 ++ C2) (e, V, d) = xc p C2 r1 := by rw [xq_app, x1]
  rcases g1 with ⟨e1, gx⟩ | ⟨P, V1, gr, op, fl, n46⟩
  · refine ⟨r1, by rw [ex]; exact xc_err e1, y1, by omega, Or.inl ⟨e1, gx⟩⟩
  · obtain ⟨r, x2, y2, z2, g2⟩ := B O P V1 r1.2.2.2 r1 V (by rw [l2]; exact hO) (by rw [l2]; exact opsN_mono op l1) fl y1 (by omega) z1 n46
    rw [l2] at g2
    exact ⟨r, by rw [ex]; exact x2, y2, z2, GO_trans gr g2⟩
theorem xs_bin {k : Int32} (hk : k = 4 ∨ k = 5 ∨ k = 6) {v1 v0 : VL} {V0 : List VL} {d : DR} : ∃ r, xs p k 0 (e, v1 :: v0 :: V0, d) = some r ∧ r.2.2.2 = d ∧ (r.1 = 0 → ∃ v, r.2 = (e, v :: V0, d)) := by
  have two : xs p k 0 (e, v1 :: v0 :: V0, d) = (match ((e, v1 :: v0 :: V0, d) : PM).2.1 with
      | .inl b :: .inl a :: st => some (0, e, .inl (opr k a b) :: st, d)
      | _ :: _ :: _ => some (2, e, v1 :: v0 :: V0, d)
      | _ => none : Option (Int32 × PM)) := by rcases hk with rfl | rfl | rfl <;> rfl
  rw [two]
  cases v1 with
  | inr l => exact ⟨_, rfl, rfl, fun h => absurd h (show ¬ (2 : Int32) = 0 by decide)⟩
  | inl b =>
    cases v0 with
    | inr l => exact ⟨_, rfl, rfl, fun h => absurd h (show ¬ (2 : Int32) = 0 by decide)⟩
    | inl a => exact ⟨_, rfl, rfl, fun _ => ⟨_, rfl⟩⟩
theorem xs_un {v1 : VL} {V0 : List VL} {d : DR} : ∃ r, xs p 8 0 (e, v1 :: V0, d) = some r ∧ r.2.2.2 = d ∧ (r.1 = 0 → ∃ v, r.2 = (e, v :: V0, d)) := by
  cases v1 with
  | inl b => exact ⟨(2, e, .inl b :: V0, d), rfl, rfl, fun h => absurd h (show ¬ (2 : Int32) = 0 by decide)⟩
  | inr l => exact ⟨(0, e, .inl (Int32.ofNat l.length) :: V0, d), rfl, rfl, fun _ => ⟨_, rfl⟩⟩
theorem xs_itm {k : Nat} {v1 : VL} {V0 : List VL} {d : DR} : ∃ r, xs p 7 (Int32.ofNat k) (e, v1 :: V0, d) = some r ∧ r.2.2.2 = d ∧ (r.1 = 0 → ∃ v, r.2 = (e, v :: V0, d)) := by
  cases v1 with
  | inl b => exact ⟨(2, e, .inl b :: V0, d), rfl, rfl, fun h => absurd h (show ¬ (2 : Int32) = 0 by decide)⟩
  | inr l =>
    have h : xs p 7 (Int32.ofNat k) (e, .inr l :: V0, d) = if (Int32.ofNat k).toNatClampNeg < l.length then some (0, e, .inl (l.getD (Int32.ofNat k).toNatClampNeg 0) :: V0, d) else some (3, e, .inr l :: V0, d) := rfl
    rw [h]
    by_cases c : (Int32.ofNat k).toNatClampNeg < l.length
    · rw [if_pos c]; exact ⟨_, rfl, rfl, fun _ => ⟨_, rfl⟩⟩
    · rw [if_neg c]; exact ⟨_, rfl, rfl, fun h => absurd h (show ¬ (3 : Int32) = 0 by decide)⟩
/-- pending operators, one more at the end -/
theorem fls_snoc {P : List (Int32 × Nat)} {Q : PM} {r1 : Int32 × PM} {y k st : Int32} (h : fls p P Q = some r1) (hk : ock y = k) : fls p (P ++ [(y, 1)]) Q = xc p [(k, 0, st)] r1 := by
  rw [fls_app, h]
  unfold xc
  by_cases e0 : r1.1 = 0
  · simp only [e0, if_true, fls, xq, hk]
    cases xs p k 0 r1.2 <;> rfl
  · simp only [e0, if_false]
theorem SE_op {w w1 a m b : Nat} {C1 C2 : List ST} {y k st : Int32} (hw : (w = 5 ∧ w1 = 1 ∧ (y = 43 ∨ y = 45)) ∨ (w = 6 ∧ w1 = 2 ∧ y = 42)) (hk : (y = 43 ∧ k = 4) ∨ (y = 45 ∧ k = 5) ∨ (y = 42 ∧ k = 6)) (hc : cat T a = y) (A : SEp T c p e fe nm w1 (a + 1) m C1) (B : SEr T c p e fe nm w m b C2) (ham : a + 1 < m) (hmb : m ≤ b) (h46 : ¬ cat T m = 46) : SEr T c p e fe nm w a b (C1 ++ ((k, 0, st) :: C2)) := by
  intro O P V d r0 V0 hO hP hf h0 hV hd hn
  have hlv : lv w = v_201 y ∧ ¬ lv w = 3 := by
    rcases hw with ⟨rfl, -, rfl | rfl⟩ | ⟨rfl, -, rfl⟩ <;> decide
  have hy : y = 43 ∨ y = 45 ∨ y = 42 := by
    rcases hk with h | h | h
    · exact Or.inl h.1
    · exact Or.inr (Or.inl h.1)
    · exact Or.inr (Or.inr h.1)
  have hisO : isO y := by unfold isO; rcases hy with h | h | h <;> simp [h]
  have hock : ock y = k := by rcases hk with ⟨rfl, rfl⟩ | ⟨rfl, rfl⟩ | ⟨rfl, rfl⟩ <;> decide
  have hk3 : k = 4 ∨ k = 5 ∨ k = 6 := by
    rcases hk with h | h | h
    · exact Or.inl h.2
    · exact Or.inr (Or.inl h.2)
    · exact Or.inr (Or.inr h.2)
  have low1 : ¬ lv w1 = 3 → low (lv w1) ((y, 1) :: O) := by
    intro hh x O' hx
    cases hx
    rcases hw with ⟨rfl, rfl, rfl | rfl⟩ | ⟨rfl, rfl, rfl⟩
    · decide
    · decide
    · exact absurd rfl hh
  have lv1 : lv w ≤ lv w1 := by rcases hw with ⟨rfl, rfl, -⟩ | ⟨rfl, rfl, -⟩ <;> decide
  obtain ⟨so1, so2⟩ := st_op (T := T) (c := c) (fe := fe) (nm := nm) (O := O) hy hc (by rw [← hlv.1]; exact hP) (by rw [← hlv.1]; exact hO hlv.2) hf
  have hds := (fls_st P (e, V, d) r0 (fun x hx => (hP x hx).1) hf).2.1
  by_cases e0 : r0.1 = 0
  · obtain ⟨v0, ev0⟩ := h0 e0
    have so := so1 e0
    have ev1 : r0.2.2.1 = v0 :: V0 := by rw [ev0]
    rw [ev1, hds] at so
    obtain ⟨r1, x1, y1, z1, g1⟩ := A ((y, 1) :: O) (v0 :: V0) d low1 (by rw [List.length_cons]; omega) (by omega)
    have ex : xc p (C1 ++ ((k, 0, st) :: C2)) r0 = xc p ((k, 0, st) :: C2) r1 := by
      unfold xc
      rw [if_pos e0, ev0, xq_app, x1]; rfl
    rcases g1 with ⟨e1, gx⟩ | ⟨P1, V1, gr, op, fl, n46⟩
    · refine ⟨r1, by rw [ex]; exact xc_err e1, fun h => absurd h e1, by omega, Or.inl ⟨e1, gX_trans so gx⟩⟩
    · have hq : ∃ r2, xc p [(k, 0, st)] r1 = some r2 ∧ r2.2.2.2 = r1.2.2.2 ∧ (r2.1 = 0 → ∃ v, r2.2 = (e, v :: V0, r1.2.2.2)) ∧ xc p ((k, 0, st) :: C2) r1 = xc p C2 r2 := by
        by_cases e1 : r1.1 = 0
        · obtain ⟨v1, ev⟩ := y1 e1
          obtain ⟨r2, b1, b2, b3⟩ := xs_bin (p := p) (e := e) hk3 (v1 := v1) (v0 := v0) (V0 := V0) (d := r1.2.2.2)
          have e2 : xs p k 0 r1.2 = some r2 := by rw [ev]; exact b1
          refine ⟨r2, ?_, b2, b3, ?_⟩
          · unfold xc
            simp only [e1, if_true, xq, e2]
            by_cases e3 : r2.1 = 0
            · simp only [e3, if_true]
              rw [← e3]
            · simp only [e3, if_false]
          · unfold xc
            simp only [e1, if_true, xq, e2]
        · exact ⟨r1, xc_err e1, rfl, fun h => absurd h e1, by rw [xc_err e1, xc_err e1]⟩
      obtain ⟨r2, q1, q2, q3, q4⟩ := hq
      have op' : opsN (lv w) (P1 ++ [(y, 1)]) := by
        intro x hx
        rcases List.mem_append.mp hx with hx | hx
        · exact opsN_mono op lv1 x hx
        · have : x = (y, 1) := by simpa using hx
          subst this
          exact ⟨hisO, by rw [hlv.1]; exact Int32.lt_irrefl⟩
      have fl' : fls p (P1 ++ [(y, 1)]) (e, V1, r1.2.2.2) = some r2 := by rw [fls_snoc (st := st) fl hock]; exact q1
      obtain ⟨r, x2, y2, z2, g2⟩ := B O (P1 ++ [(y, 1)]) V1 r1.2.2.2 r2 V0 hO op' fl' q3 (by omega) z1 (fun _ => h46)
      rw [List.append_assoc] at g2
      exact ⟨r, by rw [ex, q4]; exact x2, y2, z2, GO_trans so (GO_trans gr g2)⟩
  · refine ⟨r0, xc_err e0, fun h => absurd h e0, by rw [hds]; show d.1 ≤ b; omega, Or.inl ⟨e0, so2 e0⟩⟩
theorem SE_nil {w a : Nat} : SEr T c p e fe nm w a a [] := by
  intro O P V d r0 V0 hO hP hf h0 hV hd hn
  have hds := (fls_st P (e, V, d) r0 (fun x hx => (hP x hx).1) hf).2.1
  have ex : xc p [] r0 = some r0 := by
    unfold xc
    by_cases e0 : r0.1 = 0
    · rw [if_pos e0]
      show some ((0 : Int32), r0.2) = _
      rw [← e0]
    · rw [if_neg e0]
  refine ⟨r0, ex, fun h => ?_, by rw [hds]; exact hd, Or.inr ⟨P, V, by rw [hds]; exact gR_refl, hP, by rw [hds]; exact hf, hn⟩⟩
  obtain ⟨v0, ev⟩ := h0 h
  exact ⟨v0, by rw [hds]; exact ev⟩
/-- . -/
theorem SE_dot {a b dg : Nat} {C2 : List ST} {st : Int32} (hc : cat T a = 46) (hd2 : cat T (a + 1) = Int32.ofNat (48 + dg)) (h10 : dg < 10) (B : SEr T c p e fe nm 7 (a + 2) b C2) (hmb : a + 2 ≤ b) : SEr T c p e fe nm 7 a b ((7, Int32.ofNat dg, st) :: C2) := by
  intro O P V d r0 V0 hO hP hf h0 hV hd hn
  have hP0 : P = [] := by
    cases P with
    | nil => rfl
    | cons x P => exact absurd hc (hn (by simp))
  subst hP0
  cases hf
  obtain ⟨v0, ev⟩ := h0 rfl
  have eV : V = v0 :: V0 := by
    have : ((e, V, d) : PM).2.1 = v0 :: V0 := by rw [show (e, V, d) = (e, v0 :: V0, d) from ev]
    exact this
  subst eV
  obtain ⟨r1, b1, b2, b3⟩ := xs_itm (p := p) (e := e) (k := dg) (v1 := v0) (V0 := V0) (d := d)
  obtain ⟨s1, s2⟩ := st_item (T := T) (c := c) (fe := fe) (nm := nm) (O := O) hc hd2 h10 b1
  have ex : xc p ((7, Int32.ofNat dg, st) :: C2) (0, e, v0 :: V0, d) = xc p C2 r1 := by
    unfold xc
    simp only [if_true, xq, b1]
  by_cases e1 : r1.1 = 0
  · obtain ⟨v, ev1⟩ := b3 e1
    obtain ⟨r, x2, y2, z2, g2⟩ := B O [] r1.2.2.1 d r1 V0 hO (fun x hx => by cases hx) (by rw [show ((e, r1.2.2.1, d) : PM) = r1.2 by rw [ev1]]; show some ((0 : Int32), r1.2) = _; rw [← e1]) (fun _ => ⟨v, ev1⟩) (by omega) (by omega) (fun h => absurd rfl h)
    have s := s1 e1
    rw [b2] at s
    exact ⟨r, by rw [ex]; exact x2, y2, z2, GO_trans s g2⟩
  · exact ⟨r1, by rw [ex]; exact xc_err e1, fun h => absurd h e1, by rw [b2]; omega, Or.inl ⟨e1, s2 e1⟩⟩
end S93b
