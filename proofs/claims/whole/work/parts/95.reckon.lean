/-! ===== the model reckons as the class's code: every expression ===== -/
section S95
variable {T : List Int32} {c : Nat} {p : DP} {e fe : Nat → Option VL} {nm : Nat → Prop}
theorem xs_drw {x k k2 : Int32} {V : List VL} {d : DR} (hk : (k = 2 ∧ k2 = 0) ∨ (k = 3 ∧ k2 = 1)) (hV : V.length < 27) (hd : d.1 < 40) : xs p k x (e, V, d) = some (0, e, .inl (drw p k2 d).1 :: V, (drw p k2 d).2) := by
  rcases hk with ⟨rfl, rfl⟩ | ⟨rfl, rfl⟩
  · show (if V.length < 27 ∧ d.1 < 40 then some ((0 : Int32), e, (.inl (drw p (2 - 2) d).1 : VL) :: V, (drw p (2 - 2) d).2) else none : Option (Int32 × PM)) = _
    rw [if_pos ⟨hV, hd⟩]; rfl
  · show (if V.length < 27 ∧ d.1 < 40 then some ((0 : Int32), e, (.inl (drw p (3 - 2) d).1 : VL) :: V, (drw p (3 - 2) d).2) else none : Option (Int32 × PM)) = _
    rw [if_pos ⟨hV, hd⟩]; rfl
/-- the letters of [a, b) are names in nm -/
def LC (T : List Int32) (nm : Nat → Prop) (a b : Nat) : Prop := ∀ i j, a ≤ i → i < b → j < 26 → cat T i = Int32.ofNat (97 + j) → nm j
theorem LC_sub {a b a' b' : Nat} (h : LC T nm a b) (h1 : a ≤ a') (h2 : b' ≤ b) : LC T nm a' b' := fun i j x y => h i j (by omega) (by omega)
theorem rsp_SE (hT : T.length ≤ 40) {s s' : RS} (hr : rsp T s = (true, s')) (hl : s.2.1.length < 41) (hn : ¬ isD (cat T s'.1) = true) (hL : LC T nm s.1 s'.1) : ∃ C, s'.2.1 = s.2.1 ++ C ∧ SEp T c p e fe nm 3 s.1 s'.1 C := by
  have app : ∀ (u : RS) (k x : Int32), u.2.1 = s.2.1 → (re u k x).2.1 = s.2.1 ++ [(k, x, Int32.ofNat u.2.2.1)] := by
    intro u k x hu
    show (if u.2.1.length < 41 then u.2.1 ++ [(k, x, Int32.ofNat u.2.2.1)] else u.2.1) = _
    rw [hu, if_pos hl]
  unfold rsp at hr
  by_cases c1 : isD (cat T s.1) = true
  · rw [if_pos c1] at hr
    cases hr
    have hlt := isD_lt c1
    have h1 : s.1 < (dgs T 6 s.1 (-1)).2 := by
      have e1 : dgs T 6 s.1 (-1) = dgs T 5 (s.1 + 1) (((if (-1 : Int32) < 0 then 0 else -1) * 10 + cat T s.1) - 48) := by
        show (if isD (cat T s.1) = true then _ else _) = _
        rw [if_pos c1]
      rw [e1]
      have := (dgs_le (T := T) 5 (s.1 + 1) (((if (-1 : Int32) < 0 then 0 else -1) * 10 + cat T s.1) - 48)).1
      omega
    refine ⟨_, app _ _ _ rfl, SE_one (show s.1 < (dgs T 6 s.1 (-1)).2 from h1) (by omega) (fun O V d hV hd => ?_)⟩
    refine ⟨_, xs_push hV, fun _ => ⟨_, rfl⟩, ?_, fun _ => st_num c1 hn hV, fun h => absurd rfl h⟩
    show d.1 ≤ (dgs T 6 s.1 (-1)).2
    omega
  rw [if_neg c1] at hr
  by_cases c2 : cat T s.1 = 63
  · rw [if_pos c2] at hr
    cases hr
    have hlt := cat_eq c2 (by decide)
    refine ⟨_, app _ _ _ rfl, SE_one (show s.1 < s.1 + 1 from Nat.lt_succ_self _) (by omega) (fun O V d hV hd => ?_)⟩
    exact ⟨_, xs_drw (Or.inl ⟨rfl, rfl⟩) hV (by omega), fun _ => ⟨_, rfl⟩, (show d.1 + 1 ≤ s.1 + 1 by omega), fun _ => st_draw (Or.inl ⟨rfl, rfl⟩) c2 hV (by omega), fun h => absurd rfl h⟩
  rw [if_neg c2] at hr
  by_cases c3 : cat T s.1 = 64
  · rw [if_pos c3] at hr
    cases hr
    have hlt := cat_eq c3 (by decide)
    refine ⟨_, app _ _ _ rfl, SE_one (show s.1 < s.1 + 1 from Nat.lt_succ_self _) (by omega) (fun O V d hV hd => ?_)⟩
    exact ⟨_, xs_drw (Or.inr ⟨rfl, rfl⟩) hV (by omega), fun _ => ⟨_, rfl⟩, (show d.1 + 1 ≤ s.1 + 1 by omega), fun _ => st_draw (Or.inr ⟨rfl, rfl⟩) c3 hV (by omega), fun h => absurd rfl h⟩
  rw [if_neg c3] at hr
  by_cases c4 : isL (cat T s.1) = true
  · rw [if_pos c4] at hr
    cases hr
    obtain ⟨l, hl26, e1, e2⟩ := L_nat c4
    have hlt : s.1 < T.length := cat_ne (by rw [e1]; exact u_m1 (by omega))
    have hnm : nm l := hL s.1 l (Nat.le_refl _) (Nat.lt_succ_self _) hl26 e1
    refine ⟨[(1, Int32.ofNat l, Int32.ofNat s.2.2.1)], by rw [← e2]; exact app (ra s) 1 (cat T s.1 - 97) rfl, SE_one (show s.1 < s.1 + 1 from Nat.lt_succ_self _) (by omega) (fun O V d hV hd => ?_)⟩
    have hx := xs_name (p := p) (e := e) (d := d) hl26 hV
    have st := fun r (hr : xs p 1 (Int32.ofNat l) (e, V, d) = some r) => st_let (T := T) (c := c) (fe := fe) (O := O) hl26 hnm e1 hV hr
    cases hel : e l with
    | none =>
      rw [hel] at hx
      obtain ⟨s1, s2⟩ := st _ hx
      exact ⟨_, hx, fun h => absurd h (show ¬ (1 : Int32) = 0 by decide), (show d.1 ≤ s.1 + 1 by omega), s1, s2⟩
    | some v =>
      rw [hel] at hx
      obtain ⟨s1, s2⟩ := st _ hx
      exact ⟨_, hx, fun _ => ⟨_, rfl⟩, (show d.1 ≤ s.1 + 1 by omega), s1, s2⟩
  · rw [if_neg c4] at hr
    cases hr
def SE (T : List Int32) (c : Nat) (p : DP) (e fe : Nat → Option VL) (nm : Nat → Prop) (w a b : Nat) (C : List ST) : Prop := (w ≤ 3 → SEp T c p e fe nm w a b C) ∧ (5 ≤ w → w ≤ 7 → SEr T c p e fe nm w a b C) ∧ (8 ≤ w → SEw T c p e fe nm w a b C)
theorem re_app {s : RS} {k x : Int32} (hl : s.2.1.length < 41) : (re s k x).2.1 = s.2.1 ++ [(k, x, Int32.ofNat s.2.2.1)] := by
  show (if s.2.1.length < 41 then s.2.1 ++ [(k, x, Int32.ofNat s.2.2.1)] else s.2.1) = _
  rw [if_pos hl]
theorem s_ev (hT : T.length ≤ 40) : ∀ (f w : Nat) (s s' : RS), rR T f w s = some (true, s') → s.1 ≤ T.length → (w ≤ 15 ∧ w ≠ 4) → s.2.1.length + (if 8 ≤ w then 1 else 0) ≤ s.1 → (w ≤ 7 → ¬ isD (cat T s'.1) = true) → LC T nm s.1 s'.1 → ∃ C, s'.2.1 = s.2.1 ++ C ∧ SE T c p e fe nm w s.1 s'.1 C := by
  intro f
  induction f with
  | zero => intro w s s' h; cases h
  | succ f ih =>
    intro w s s' h hp hw15 hl hD hL
    have h0 := h
    have two : ∀ w1 w2, ((w = 0 ∧ w1 = 1 ∧ w2 = 5) ∨ (w = 1 ∧ w1 = 2 ∧ w2 = 6) ∨ (w = 2 ∧ w1 = 3 ∧ w2 = 7)) → bb (rR T f w1 s) (rR T f w2) = some (true, s') → ∃ C, s'.2.1 = s.2.1 ++ C ∧ SE T c p e fe nm w s.1 s'.1 C := by
      intro w1 w2 hw h
      have hw8 : w ≤ 2 := by omega
      rw [if_neg (show ¬ 8 ≤ w by omega)] at hl
      rcases bb_some h with ⟨s1, a1, a2⟩ | ⟨h1, -⟩
      · have m1 := rR_mono _ _ _ _ _ a1
        have m2 := rR_mono _ _ _ _ _ a2
        have hs1 := m1.2.1 hp
        have hlt := m1.2.2 rfl (by omega) (by omega) (by omega)
        have d1 : ¬ isD (cat T s1.1) = true := fun hd => by
          obtain ⟨-, e2⟩ := rest_D (w := w2) hd (by omega) a2
          rw [e2] at hD
          exact hD (by omega) hd
        obtain ⟨n, b1, b2⟩ := rR_CE hT _ _ _ _ a1 hp (by omega) (by rw [if_neg (show ¬ 8 ≤ w1 by omega)]; omega)
        rw [if_neg (show ¬ 8 ≤ w1 by omega)] at b2
        have hlen := CE_len b1
        obtain ⟨C1, x1, y1⟩ := ih w1 s s1 a1 hp (by omega) (by rw [if_neg (show ¬ 8 ≤ w1 by omega)]; omega) (fun _ => d1) (LC_sub hL (Nat.le_refl _) m2.1)
        obtain ⟨C2, x2, y2⟩ := ih w2 s1 s' a2 hs1 (by omega) (by rw [if_neg (show ¬ 8 ≤ w2 by omega)]; omega) (fun _ => hD (by omega)) (LC_sub hL (by omega) (Nat.le_refl _))
        refine ⟨C1 ++ C2, by rw [x2, x1, List.append_assoc], fun _ => ?_, fun h => absurd h (by omega), fun h => absurd h (by omega)⟩
        exact SE_two hw (y1.1 (by omega)) (y2.2.1 (by omega) (by omega)) hlt m2.1
      · cases h1
    have op : ∀ w1 y k, ((w = 5 ∧ w1 = 1 ∧ (y = 43 ∨ y = 45)) ∨ (w = 6 ∧ w1 = 2 ∧ y = 42)) → ((y = 43 ∧ k = 4) ∨ (y = 45 ∧ k = 5) ∨ (y = 42 ∧ k = 6)) → cat T s.1 = y → bb (rR T f w1 (ra s)) (fun s' => rR T f w (re s' k 0)) = some (true, s') → ∃ C, s'.2.1 = s.2.1 ++ C ∧ SE T c p e fe nm w s.1 s'.1 C := by
      intro w1 y k hw hk hc h
      have hlt : s.1 < T.length := cat_eq hc (by rcases hk with ⟨rfl, -⟩ | ⟨rfl, -⟩ | ⟨rfl, -⟩ <;> decide)
      rw [if_neg (show ¬ 8 ≤ w by omega)] at hl
      have e1 : (ra s).1 = s.1 + 1 := rfl
      have e2 : (ra s).2.1 = s.2.1 := rfl
      rcases bb_some h with ⟨s1, a1, a2⟩ | ⟨h1, -⟩
      · have m1 := rR_mono _ _ _ _ _ a1
        have m2 := rR_mono _ _ _ _ _ a2
        rw [e1] at m1
        have e3 : (re s1 k 0).1 = s1.1 := rfl
        rw [e3] at m2
        have hs1 := m1.2.1 (by omega)
        have hlt1 := m1.2.2 rfl (by omega) (by omega) (by omega)
        have d1 : ¬ isD (cat T s1.1) = true := fun hd => by
          obtain ⟨-, e2⟩ := rest_D (w := w) (s := re s1 k 0) hd (by omega) a2
          rw [e2] at hD
          exact hD (by omega) hd
        obtain ⟨n, b1, b2⟩ := rR_CE hT _ _ _ _ a1 (by rw [e1]; omega) (by omega) (by rw [if_neg (show ¬ 8 ≤ w1 by omega), e1, e2]; omega)
        rw [if_neg (show ¬ 8 ≤ w1 by omega), e1] at b2
        have hlen := CE_len b1
        rw [e2] at hlen
        have hre := re_app (s := s1) (k := k) (x := 0) (by omega)
        have h46 : ¬ cat T s1.1 = 46 := ((s_scan hT _ _ _ _ _ a1 [] (by rw [e1]; omega)).1 (by omega)).1 rfl |>.2.1 (by omega)
        obtain ⟨C1, x1, y1⟩ := ih w1 (ra s) s1 a1 (by rw [e1]; omega) (by omega) (by rw [if_neg (show ¬ 8 ≤ w1 by omega), e1, e2]; omega) (fun _ => d1) (LC_sub hL (by rw [e1]; omega) m2.1)
        obtain ⟨C2, x2, y2⟩ := ih w (re s1 k 0) s' a2 hs1 (by omega) (by rw [if_neg (show ¬ 8 ≤ w by omega), e3, hre, List.length_append]; show s1.2.1.length + 1 + 0 ≤ s1.1; omega) (fun _ => hD (by omega)) (LC_sub hL (by rw [e3]; omega) (Nat.le_refl _))
        rw [e1] at y1
        rw [e3] at y2
        refine ⟨C1 ++ ((k, 0, Int32.ofNat s1.2.2.1) :: C2), ?_, fun h => absurd h (by omega), fun _ _ => ?_, fun h => absurd h (by omega)⟩
        · rw [x2, hre, x1, e2, List.append_assoc, List.append_assoc]; rfl
        · exact SE_op hw hk hc (y1.1 (by omega)) (y2.2.1 (by omega) (by omega)) hlt1 m2.1 h46
      · cases h1
    rw [rR] at h
    by_cases w0 : w = 0
    · rw [if_pos w0] at h; exact two _ _ (Or.inl ⟨w0, rfl, rfl⟩) h
    rw [if_neg w0] at h
    by_cases w1 : w = 1
    · rw [if_pos w1] at h; exact two _ _ (Or.inr (Or.inl ⟨w1, rfl, rfl⟩)) h
    rw [if_neg w1] at h
    by_cases w2 : w = 2
    · rw [if_pos w2] at h; exact two _ _ (Or.inr (Or.inr ⟨w2, rfl, rfl⟩)) h
    rw [if_neg w2] at h
    have e1 : (ra s).1 = s.1 + 1 := rfl
    have e2 : (ra s).2.1 = s.2.1 := rfl
    by_cases w3 : w = 3
    · rw [if_pos w3] at h
      rw [if_neg (show ¬ 8 ≤ w by omega)] at hl
      have hD' := hD (by omega)
      subst w3
      have c3 : ∀ {C : List ST}, SEp T c p e fe nm 3 s.1 s'.1 C → SE T c p e fe nm 3 s.1 s'.1 C := fun h => ⟨fun _ => h, fun h => absurd h (by decide), fun h => absurd h (by decide)⟩
      by_cases c1 : cat T s.1 = 35
      · rw [if_pos c1] at h
        have hlt := cat_eq c1 (by decide)
        cases hr : rR T f 2 (ra s) with
        | none => rw [hr] at h; cases h
        | some x =>
          obtain ⟨b, s1⟩ := x
          rw [hr] at h
          have hb : b = true := by cases h; rfl
          have hs : s' = re s1 8 0 := by cases h; rfl
          subst hb
          have m1 := rR_mono _ _ _ _ _ hr
          rw [e1] at m1
          have hs1 := m1.2.1 (by omega)
          have e3 : s'.1 = s1.1 := by rw [hs]; rfl
          obtain ⟨n, b1, b2⟩ := rR_CE hT _ _ _ _ hr (by rw [e1]; omega) (by decide) (by rw [if_neg (by decide), e1, e2]; omega)
          rw [if_neg (by decide), e1] at b2
          have hlen := CE_len b1
          rw [e2] at hlen
          have hre := re_app (s := s1) (k := 8) (x := 0) (by omega)
          have h46 : ¬ cat T s1.1 = 46 := ((s_scan hT _ _ _ _ _ hr [] (by rw [e1]; omega)).1 (by decide)).1 rfl |>.2.1 (by decide)
          obtain ⟨C1, x1, y1⟩ := ih 2 (ra s) s1 hr (by rw [e1]; omega) (by decide) (by rw [if_neg (by decide), e1, e2]; omega) (fun _ => by rw [← e3]; exact hD') (LC_sub hL (by rw [e1]; omega) (by omega))
          rw [e1] at y1
          refine ⟨C1 ++ [(8, 0, Int32.ofNat s1.2.2.1)], by rw [hs, hre, x1, e2, List.append_assoc], c3 ?_⟩
          rw [e3]
          exact SE_cnt c1 (y1.1 (by decide)) h46
      rw [if_neg c1] at h
      by_cases c2 : cat T s.1 = 40
      · rw [if_pos c2] at h
        have hlt := cat_eq c2 (by decide)
        rcases bb_some h with ⟨s1, a1, a2⟩ | ⟨h1, -⟩
        · by_cases c4 : cat T s1.1 = 41
          · rw [if_pos c4] at a2
            have hs : s' = ra s1 := by cases a2; rfl
            have m1 := rR_mono _ _ _ _ _ a1
            rw [e1] at m1
            have e3 : s'.1 = s1.1 + 1 := by rw [hs]; rfl
            have d1 : ¬ isD (cat T s1.1) = true := by rw [c4]; decide
            obtain ⟨C1, x1, y1⟩ := ih 0 (ra s) s1 a1 (by rw [e1]; omega) (by decide) (by rw [if_neg (by decide), e1, e2]; omega) (fun _ => d1) (LC_sub hL (by rw [e1]; omega) (by omega))
            rw [e1] at y1
            refine ⟨C1, by rw [hs]; show s1.2.1 = _; rw [x1, e2], c3 ?_⟩
            rw [e3]
            exact SE_par c2 c4 (y1.1 (by decide))
          · rw [if_neg c4] at a2; cases a2
        · cases h1
      rw [if_neg c2] at h
      by_cases c4 : cat T s.1 = 91
      · rw [if_pos c4] at h
        have hlt := cat_eq c4 (by decide)
        obtain ⟨C1, x1, y1⟩ := ih 8 (ra s) s' h (by rw [e1]; omega) (by decide) (by rw [if_pos (by decide), e1, e2]; omega) (fun h => absurd h (by decide)) (LC_sub hL (by rw [e1]; omega) (Nat.le_refl _))
        rw [e1] at y1
        exact ⟨C1, by rw [x1, e2], c3 (SE_row c4 (y1.2.2 (by decide)))⟩
      rw [if_neg c4] at h
      obtain ⟨C1, x1, y1⟩ := rsp_SE hT (s := s) (s' := s') (c := c) (p := p) (e := e) (fe := fe) (nm := nm) (Option.some.inj h) (by omega) hD' hL
      exact ⟨C1, x1, c3 y1⟩
    rw [if_neg w3] at h
    by_cases w5 : w = 5
    · rw [if_pos w5] at h
      by_cases c1 : cat T s.1 = 43
      · rw [if_pos c1] at h
        exact op 1 43 4 (Or.inl ⟨w5, rfl, Or.inl rfl⟩) (Or.inl ⟨rfl, rfl⟩) c1 (by rw [w5]; exact h)
      rw [if_neg c1] at h
      by_cases c2 : cat T s.1 = 45
      · rw [if_pos c2] at h
        exact op 1 45 5 (Or.inl ⟨w5, rfl, Or.inr rfl⟩) (Or.inr (Or.inl ⟨rfl, rfl⟩)) c2 (by rw [w5]; exact h)
      rw [if_neg c2] at h
      cases h
      exact ⟨[], (List.append_nil _).symm, fun h => absurd h (by omega), fun _ _ => SE_nil, fun h => absurd h (by omega)⟩
    rw [if_neg w5] at h
    by_cases w6 : w = 6
    · rw [if_pos w6] at h
      by_cases c1 : cat T s.1 = 42
      · rw [if_pos c1] at h
        exact op 2 42 6 (Or.inr ⟨w6, rfl, rfl⟩) (Or.inr (Or.inr ⟨rfl, rfl⟩)) c1 (by rw [w6]; exact h)
      rw [if_neg c1] at h
      cases h
      exact ⟨[], (List.append_nil _).symm, fun h => absurd h (by omega), fun _ _ => SE_nil, fun h => absurd h (by omega)⟩
    rw [if_neg w6] at h
    by_cases w7 : w = 7
    · rw [if_pos w7] at h
      rw [if_neg (show ¬ 8 ≤ w by omega)] at hl
      have hD' := hD (by omega)
      subst w7
      by_cases c1 : cat T s.1 = 46
      · rw [if_pos c1] at h
        by_cases c2 : isD (cat T (s.1 + 1)) = true
        · rw [if_pos c2] at h
          have hlt := isD_lt c2
          obtain ⟨l, hl2, e4⟩ := D_nat c2
          have e5 : cat T (s.1 + 1) - 48 = Int32.ofNat l := by
            rw [e4]
            have := u_subL (a := 48 + l) (n := 48) (by omega)
            rw [show 48 + l - 48 = l by omega] at this
            exact this
          have hre := re_app (s := ra s) (k := 7) (x := cat T (s.1 + 1) - 48) (by rw [e2]; omega)
          have e7 : (ra (re (ra s) 7 (cat T (s.1 + 1) - 48))).1 = s.1 + 2 := rfl
          have e8 : (ra (re (ra s) 7 (cat T (s.1 + 1) - 48))).2.1 = (re (ra s) 7 (cat T (s.1 + 1) - 48)).2.1 := rfl
          have m1 := rR_mono _ _ _ _ _ h
          rw [e7] at m1
          obtain ⟨C1, x1, y1⟩ := ih 7 _ s' h (by rw [e7]; omega) (by decide) (by rw [if_neg (by decide), e7, e8, hre, e2, List.length_append]; show s.2.1.length + 1 + 0 ≤ s.1 + 2; omega) (fun _ => hD') (LC_sub hL (by rw [e7]; omega) (Nat.le_refl _))
          rw [e7] at y1
          refine ⟨(7, Int32.ofNat l, Int32.ofNat (ra s).2.2.1) :: C1, ?_, fun h => absurd h (by decide), fun _ _ => SE_dot c1 e4 hl2 (y1.2.1 (by decide) (by decide)) m1.1, fun h => absurd h (by decide)⟩
          rw [x1, e8, hre, e2, e5, List.append_assoc]; rfl
        · rw [if_neg c2] at h; cases h
      rw [if_neg c1] at h
      cases h
      exact ⟨[], (List.append_nil _).symm, fun h => absurd h (by decide), fun _ _ => SE_nil, fun h => absurd h (by decide)⟩
    rw [if_neg w7] at h
    rcases bb_some h with ⟨s1, a1, a2⟩ | ⟨h1, -⟩
    rotate_left
    · cases h1
    have w8 : 8 ≤ w := by omega
    rw [if_pos w8] at hl
    have m1 := rR_mono _ _ _ _ _ a1
    have hs1 := m1.2.1 hp
    have hlt1 := m1.2.2 rfl (by decide) (by decide) (by decide)
    obtain ⟨n, b1, b2⟩ := rR_CE hT _ _ _ _ a1 hp (by decide) (by rw [if_neg (by decide)]; omega)
    rw [if_neg (by decide)] at b2
    have hlen := CE_len b1
    have hre := re_app (s := s1) (k := 9) (x := 0) (by omega)
    have hrl : (re s1 9 0).2.1.length = s1.2.1.length + 1 := by rw [hre, List.length_append]; rfl
    by_cases c1 : cat T s1.1 = 93
    · rw [if_pos c1] at a2
      have hs : s' = re (ra (re s1 9 0)) 10 (Int32.ofNat (w - 7)) := by cases a2; rfl
      have e3 : s'.1 = s1.1 + 1 := by rw [hs]; rfl
      have hs2 := cat_eq c1 (by decide)
      have hre2 := re_app (s := ra (re s1 9 0)) (k := 10) (x := Int32.ofNat (w - 7)) (by show (re s1 9 0).2.1.length < 41; omega)
      have d1 : ¬ isD (cat T s1.1) = true := by rw [c1]; decide
      obtain ⟨C1, x1, y1⟩ := ih 0 s s1 a1 hp (by decide) (by rw [if_neg (by decide)]; omega) (fun _ => d1) (LC_sub hL (Nat.le_refl _) (by omega))
      refine ⟨C1 ++ [(9, 0, Int32.ofNat s1.2.2.1), (10, Int32.ofNat (w - 7), Int32.ofNat (ra (re s1 9 0)).2.2.1)], ?_, fun h => absurd h (by omega), fun _ h => absurd h (by omega), fun _ => ?_⟩
      · rw [hs, hre2]
        show (re s1 9 0).2.1 ++ _ = _
        rw [hre, x1, List.append_assoc, List.append_assoc]; rfl
      · rw [e3]
        exact SE_end w8 hw15.1 c1 (y1.1 (by decide))
    rw [if_neg c1] at a2
    by_cases c2 : w = 15
    · rw [if_pos c2] at a2; cases a2
    rw [if_neg c2] at a2
    by_cases c3 : cat T s1.1 = 44
    · rw [if_pos c3] at a2
      have hlt := cat_eq c3 (by decide)
      have e7 : (ra (re s1 9 0)).1 = s1.1 + 1 := rfl
      have e8 : (ra (re s1 9 0)).2.1 = (re s1 9 0).2.1 := rfl
      have m2 := rR_mono _ _ _ _ _ a2
      rw [e7] at m2
      have d1 : ¬ isD (cat T s1.1) = true := by rw [c3]; decide
      obtain ⟨C1, x1, y1⟩ := ih 0 s s1 a1 hp (by decide) (by rw [if_neg (by decide)]; omega) (fun _ => d1) (LC_sub hL (Nat.le_refl _) (by omega))
      obtain ⟨C2, x2, y2⟩ := ih (w + 1) _ s' a2 (by rw [e7]; omega) (by omega) (by rw [if_pos (by omega), e7, e8]; omega) (fun h => absurd h (by omega)) (LC_sub hL (by rw [e7]; omega) (Nat.le_refl _))
      rw [e7] at y2
      refine ⟨C1 ++ ((9, 0, Int32.ofNat s1.2.2.1) :: C2), ?_, fun h => absurd h (by omega), fun _ h => absurd h (by omega), fun _ => ?_⟩
      · rw [x2, e8, hre, x1, List.append_assoc, List.append_assoc]; rfl
      · exact SE_com w8 (by omega) c3 (y1.1 (by decide)) (y2.2.2 (by omega)) hlt1 m2.1
    · rw [if_neg c3] at a2; cases a2
end S95
