/-! ===== the model's scanner finds what rR finds, II ===== -/
section S51
variable {T : List Int32}
theorem rest_D {f w : Nat} {s s' : RS} {b : Bool} (hd : isD (cat T s.1) = true) (hw : w = 5 ∨ w = 6 ∨ w = 7) (h : rR T f w s = some (b, s')) : b = true ∧ s' = s := by
  cases f with
  | zero => cases h
  | succ f =>
    have d := D_ne hd
    rw [rR] at h
    rcases hw with rfl | rfl | rfl
    · rw [if_neg (by decide), if_neg (by decide), if_neg (by decide), if_neg (by decide), if_pos rfl, if_neg d.1, if_neg d.2.1] at h
      cases h; exact ⟨rfl, rfl⟩
    · rw [if_neg (by decide), if_neg (by decide), if_neg (by decide), if_neg (by decide), if_neg (by decide), if_pos rfl, if_neg d.2.2.1] at h
      cases h; exact ⟨rfl, rfl⟩
    · rw [if_neg (by decide), if_neg (by decide), if_neg (by decide), if_neg (by decide), if_neg (by decide), if_neg (by decide), if_pos rfl, if_neg d.2.2.2.1] at h
      cases h; exact ⟨rfl, rfl⟩
theorem sc_op {p : Nat} {M : List (Int32 × Nat)} {x : Int32} (hx : cat T p = x) (ho : x = 43 ∨ x = 45 ∨ x = 42) : scS T (p, M, false) = .inl (p + 1, M, true) := by
  have hne : ¬ x = -1 := by rcases ho with rfl | rfl | rfl <;> decide
  have hlt := cat_eq hx hne
  have h59 : ¬ x = 59 := by rcases ho with rfl | rfl | rfl <;> decide
  have h46 : ¬ x = 46 := by rcases ho with rfl | rfl | rfl <;> decide
  unfold scS
  dsimp only
  rw [hx, if_neg (fun hh => hh.2.2.elim (fun h => h hlt) (fun h => h59 h)), if_neg (by decide), if_neg h46, if_pos ho]
theorem sc_dot {p : Nat} {M : List (Int32 × Nat)} (hx : cat T p = 46) : scS T (p, M, false) = if isD (cat T (p + 1)) = true then .inl (p + 2, M, false) else .inr (false, p + 1) := by
  have hlt := cat_eq hx (by decide)
  unfold scS
  dsimp only
  rw [hx, if_neg (fun hh => hh.2.2.elim (fun h => h hlt) (fun h => absurd h (by decide))), if_neg (by decide), if_pos rfl]
theorem sc_in {p : Nat} {k : Int32} {c : Nat} {M : List (Int32 × Nat)} (h1 : ¬ cat T p = 46) (h2 : ¬ cat T p = 43) (h3 : ¬ cat T p = 45) (h4 : ¬ cat T p = 42) : scS T (p, (k, c) :: M, false) = if (cat T p = 41 ∧ ¬ k = 91) ∨ (cat T p = 93 ∧ k = 91) then .inl (p + 1, M, false) else if cat T p = 44 ∧ k = 91 ∧ c < 8 then .inl (p + 1, (k, c + 1) :: M, true) else .inr (false, p) := by
  unfold scS
  dsimp only
  rw [if_neg (by rintro ⟨-, h, -⟩; cases h), if_neg (by decide), if_neg h1, if_neg (fun hh => hh.elim h2 (fun hh => hh.elim h3 h4))]
theorem sc_part {p : Nat} {M : List (Int32 × Nat)} : scS T (p, M, true) = if isD (cat T p) = true then (if isD (cat T (dgs T 6 p (-1)).2) = true then .inr (false, (dgs T 6 p (-1)).2) else .inl ((dgs T 6 p (-1)).2, M, false)) else if isL (cat T p) = true ∨ cat T p = 63 ∨ cat T p = 64 then .inl (p + 1, M, false) else if cat T p = 35 then .inl (p + 1, M, true) else if cat T p = 40 ∨ cat T p = 91 then .inl (p + 1, (cat T p, 1) :: M, true) else .inr (false, p) := by
  unfold scS
  dsimp only
  rw [if_neg (by rintro ⟨h, -⟩; cases h), if_pos rfl]
theorem s_scan (hT : T.length ≤ 40) : ∀ (f w : Nat) (s : RS) (b : Bool) (s' : RS), rR T f w s = some (b, s') → SR T w s b s' := by
  intro f
  induction f with
  | zero => intro w s b s' h; cases h
  | succ f ih =>
    intro w s b s' hr M hp
    have hmono := rR_mono _ _ _ _ _ hr
    have hr0 := hr
    rw [rR] at hr
    refine ⟨?_, ?_, ?_, ?_, ?_⟩
    · intro hw
      by_cases w0 : w = 0
      · subst w0
        rw [if_pos rfl] at hr
        rcases bb_some hr with ⟨s1, a1, a2⟩ | ⟨rfl, a1⟩
        · have hm := rR_mono _ _ _ _ _ a1
          obtain ⟨i1, i2, i3, -⟩ := ((ih _ _ _ _ a1 M hp).1 (by decide)).1 rfl
          have j := (ih _ _ _ _ a2 M (hm.2.1 hp)).2.1 rfl (i2 (by decide)) (i3 (by decide))
          rcases i1 with i1 | ⟨i1, i4⟩
          · refine ⟨fun hb => ?_, fun hb => Ex_trans i1 (j.2 hb)⟩
            obtain ⟨j1, j2, j3, j4⟩ := j.1 hb
            refine ⟨?_, fun _ => j2, fun _ => j3, fun _ => j4⟩
            rcases j1 with j1 | ⟨j1, j5⟩
            · exact Or.inl (Rc_trans i1 j1)
            · exact Or.inr ⟨j1, Ex_trans i1 j5⟩
          · obtain ⟨rfl, rfl⟩ := rest_D i1 (Or.inl rfl) a2
            have d := D_ne i1
            exact ⟨fun _ => ⟨Or.inr ⟨i1, i4⟩, fun _ => d.2.2.2.1, fun _ => d.2.2.1, fun _ => ⟨d.1, d.2.1⟩⟩, fun h => by cases h⟩
        · exact ⟨fun h => (by cases h), fun _ => ((ih _ _ _ _ a1 M hp).1 (by decide)).2 rfl⟩
      rw [if_neg w0] at hr
      by_cases w1 : w = 1
      · subst w1
        rw [if_pos rfl] at hr
        rcases bb_some hr with ⟨s1, a1, a2⟩ | ⟨rfl, a1⟩
        · have hm := rR_mono _ _ _ _ _ a1
          obtain ⟨i1, i2, -, -⟩ := ((ih _ _ _ _ a1 M hp).1 (by decide)).1 rfl
          have j := (ih _ _ _ _ a2 M (hm.2.1 hp)).2.2.1 rfl (i2 (by decide))
          rcases i1 with i1 | ⟨i1, i4⟩
          · refine ⟨fun hb => ?_, fun hb => Ex_trans i1 (j.2 hb)⟩
            obtain ⟨j1, j2, j3⟩ := j.1 hb
            refine ⟨?_, fun _ => j2, fun _ => j3, fun h => absurd h (by decide)⟩
            rcases j1 with j1 | ⟨j1, j5⟩
            · exact Or.inl (Rc_trans i1 j1)
            · exact Or.inr ⟨j1, Ex_trans i1 j5⟩
          · obtain ⟨rfl, rfl⟩ := rest_D i1 (Or.inr (Or.inl rfl)) a2
            have d := D_ne i1
            exact ⟨fun _ => ⟨Or.inr ⟨i1, i4⟩, fun _ => d.2.2.2.1, fun _ => d.2.2.1, fun h => absurd h (by decide)⟩, fun h => by cases h⟩
        · exact ⟨fun h => (by cases h), fun _ => ((ih _ _ _ _ a1 M hp).1 (by decide)).2 rfl⟩
      rw [if_neg w1] at hr
      by_cases w2 : w = 2
      · subst w2
        rw [if_pos rfl] at hr
        rcases bb_some hr with ⟨s1, a1, a2⟩ | ⟨rfl, a1⟩
        · have hm := rR_mono _ _ _ _ _ a1
          obtain ⟨i1, -⟩ := ((ih _ _ _ _ a1 M hp).1 (by decide)).1 rfl
          have j := (ih _ _ _ _ a2 M (hm.2.1 hp)).2.2.2.1 rfl
          rcases i1 with i1 | ⟨i1, i4⟩
          · refine ⟨fun hb => ?_, fun hb => Ex_trans i1 (j.2 hb)⟩
            obtain ⟨j1, j2⟩ := j.1 hb
            refine ⟨?_, fun _ => j2, fun h => absurd h (by decide), fun h => absurd h (by decide)⟩
            rcases j1 with j1 | ⟨j1, j5⟩
            · exact Or.inl (Rc_trans i1 j1)
            · exact Or.inr ⟨j1, Ex_trans i1 j5⟩
          · obtain ⟨rfl, rfl⟩ := rest_D i1 (Or.inr (Or.inr rfl)) a2
            have d := D_ne i1
            exact ⟨fun _ => ⟨Or.inr ⟨i1, i4⟩, fun _ => d.2.2.2.1, fun h => absurd h (by decide), fun h => absurd h (by decide)⟩, fun h => by cases h⟩
        · exact ⟨fun h => (by cases h), fun _ => ((ih _ _ _ _ a1 M hp).1 (by decide)).2 rfl⟩
      rw [if_neg w2] at hr
      have w3 : w = 3 := by omega
      subst w3
      rw [if_pos rfl] at hr
      have c3 : ∀ {P : Prop}, (3 : Nat) ≤ 2 → P := fun h => absurd h (by decide)
      have c3' : ∀ {P : Prop}, (3 : Nat) ≤ 1 → P := fun h => absurd h (by decide)
      have c3'' : ∀ {P : Prop}, (3 : Nat) = 0 → P := fun h => absurd h (by decide)
      by_cases c1 : cat T s.1 = 35
      · rw [if_pos c1] at hr
        have hlt := cat_eq c1 (by decide)
        have step : Rc T (s.1, M, true) (s.1 + 1, M, true) := Rc_1 (by show s.1 ≤ 40; omega) (by rw [sc_part, c1, if_neg (by decide), if_neg (by decide), if_pos rfl]) (Nat.lt_succ_self _)
        split at hr
        · rename_i b1 s1 hs1
          cases hr
          have i := (ih _ _ _ _ hs1 M hlt).1 (by decide)
          refine ⟨fun hb => ⟨?_, c3, c3', c3''⟩, fun hb => Ex_trans step (i.2 hb)⟩
          rcases (i.1 hb).1 with j1 | ⟨j1, j5⟩
          · exact Or.inl (Rc_trans step j1)
          · exact Or.inr ⟨j1, Ex_trans step j5⟩
        · cases hr
      rw [if_neg c1] at hr
      by_cases c2 : cat T s.1 = 40
      · rw [if_pos c2] at hr
        have hlt := cat_eq c2 (by decide)
        have step : Rc T (s.1, M, true) (s.1 + 1, (40, 1) :: M, true) := Rc_1 (by show s.1 ≤ 40; omega) (by rw [sc_part, c2, if_neg (by decide), if_neg (by decide), if_neg (by decide), if_pos (Or.inl rfl)]) (Nat.lt_succ_self _)
        rcases bb_some hr with ⟨s1, a1, a2⟩ | ⟨rfl, a1⟩
        · have hm := rR_mono _ _ _ _ _ a1
          have hp1 := hm.2.1 hlt
          obtain ⟨i1, i2, i3, i4⟩ := ((ih _ _ _ _ a1 ((40, 1) :: M) hlt).1 (by decide)).1 rfl
          have k1 := i2 (by decide); have k2 := i3 (by decide); have k3 := i4 rfl
          split at a2
          · rename_i c4
            cases a2
            refine ⟨fun _ => ⟨?_, c3, c3', c3''⟩, fun h => by cases h⟩
            rcases i1 with i1 | ⟨i1, i5⟩
            · refine Or.inl (Rc_trans step (Rc_trans i1 (Rc_1 (by show s1.1 ≤ 40; omega) ?_ (Nat.lt_succ_self _))))
              rw [sc_in k1 k3.1 k3.2 k2, if_pos (Or.inl ⟨c4, by decide⟩)]; rfl
            · exact absurd c4 (D_ne i1).2.2.2.2.1
          · rename_i c4
            have hs : s' = s1 := by cases a2; rfl
            have hb : b = false := by cases a2; rfl
            rw [hs, hb]
            refine ⟨fun h => (by cases h), fun _ => ?_⟩
            rcases i1 with i1 | ⟨i1, i5⟩
            · refine Ex_trans step (Ex_trans i1 (Ex_1 (by show s1.1 ≤ 40; omega) ?_))
              rw [sc_in k1 k3.1 k3.2 k2, if_neg (fun hh => hh.elim (fun h => c4 h.1) (fun h => absurd h.2 (by decide))), if_neg (by rintro ⟨-, h, -⟩; exact absurd h (by decide))]
            · exact Ex_trans step i5
        · exact ⟨fun h => (by cases h), fun _ => Ex_trans step (((ih _ _ _ _ a1 ((40, 1) :: M) hlt).1 (by decide)).2 rfl)⟩
      rw [if_neg c2] at hr
      by_cases c4 : cat T s.1 = 91
      · rw [if_pos c4] at hr
        have hlt := cat_eq c4 (by decide)
        have step : Rc T (s.1, M, true) (s.1 + 1, (91, 1) :: M, true) := Rc_1 (by show s.1 ≤ 40; omega) (by rw [sc_part, c4, if_neg (by decide), if_neg (by decide), if_neg (by decide), if_pos (Or.inr rfl)]) (Nat.lt_succ_self _)
        have i := (ih _ _ _ _ hr M hlt).2.2.2.2 (by decide) (by decide)
        refine ⟨fun hb => ⟨?_, c3, c3', c3''⟩, fun hb => Ex_trans step (i.2 hb)⟩
        rcases i.1 hb with j1 | ⟨j1, j5⟩
        · exact Or.inl (Rc_trans step j1)
        · exact Or.inr ⟨j1, Ex_trans step j5⟩
      rw [if_neg c4] at hr
      have e : rsp T s = (b, s') := Option.some.inj hr
      unfold rsp at e
      by_cases d1 : isD (cat T s.1) = true
      · rw [if_pos d1] at e
        cases e
        refine ⟨fun _ => ⟨?_, c3, c3', c3''⟩, fun h => by cases h⟩
        have hlt : s.1 < (dgs T 6 s.1 (-1)).2 := hmono.2.2 rfl (by decide) (by decide) (by decide)
        show Ok1 T (s.1, M, true) (dgs T 6 s.1 (-1)).2 M
        by_cases d2 : isD (cat T (dgs T 6 s.1 (-1)).2) = true
        · exact Or.inr ⟨d2, Ex_1 (by show s.1 ≤ 40; omega) (by rw [sc_part, if_pos d1, if_pos d2])⟩
        · exact Or.inl (Rc_1 (by show s.1 ≤ 40; omega) (by rw [sc_part, if_pos d1, if_neg d2]) hlt)
      rw [if_neg d1] at e
      have simple : (isL (cat T s.1) = true ∨ cat T s.1 = 63 ∨ cat T s.1 = 64) → Ok1 T (s.1, M, true) (s.1 + 1) M := fun ho => Or.inl (Rc_1 (by show s.1 ≤ 40; omega) (by rw [sc_part, if_neg d1, if_pos ho]) (Nat.lt_succ_self _))
      by_cases d2 : cat T s.1 = 63
      · rw [if_pos d2] at e; cases e
        exact ⟨fun _ => ⟨simple (Or.inr (Or.inl d2)), c3, c3', c3''⟩, fun h => by cases h⟩
      rw [if_neg d2] at e
      by_cases d3 : cat T s.1 = 64
      · rw [if_pos d3] at e; cases e
        exact ⟨fun _ => ⟨simple (Or.inr (Or.inr d3)), c3, c3', c3''⟩, fun h => by cases h⟩
      rw [if_neg d3] at e
      by_cases d4 : isL (cat T s.1) = true
      · rw [if_pos d4] at e; cases e
        exact ⟨fun _ => ⟨simple (Or.inl d4), c3, c3', c3''⟩, fun h => by cases h⟩
      rw [if_neg d4] at e; cases e
      refine ⟨fun h => (by cases h), fun _ => Ex_1 (by show s.1 ≤ 40; omega) ?_⟩
      rw [sc_part, if_neg d1, if_neg (fun hh => hh.elim d4 (fun hh => hh.elim d2 d3)), if_neg c1, if_neg (fun hh => hh.elim c2 c4)]
    · intro w5 h46 h42
      subst w5
      rw [if_neg (by decide), if_neg (by decide), if_neg (by decide), if_neg (by decide), if_pos rfl] at hr
      have op : ∀ k x, cat T s.1 = x → (x = 43 ∨ x = 45 ∨ x = 42) → bb (rR T f 1 (ra s)) (fun s' => rR T f 5 (re s' k 0)) = some (b, s') → (b = true → Ok1 T (s.1, M, false) s'.1 M ∧ (¬ cat T s'.1 = 46) ∧ (¬ cat T s'.1 = 42) ∧ (¬ cat T s'.1 = 43 ∧ ¬ cat T s'.1 = 45)) ∧ (b = false → Ex T (s.1, M, false) (false, s'.1)) := by
        intro k x hx ho hb
        have hne : ¬ x = -1 := by rcases ho with rfl | rfl | rfl <;> decide
        have hlt := cat_eq hx hne
        have step : Rc T (s.1, M, false) (s.1 + 1, M, true) := Rc_1 (by show s.1 ≤ 40; omega) (sc_op hx ho) (Nat.lt_succ_self _)
        rcases bb_some hb with ⟨s1, a1, a2⟩ | ⟨rfl, a1⟩
        · have hm := rR_mono _ _ _ _ _ a1
          obtain ⟨i1, i2, i3, -⟩ := ((ih _ _ _ _ a1 M hlt).1 (by decide)).1 rfl
          have j := (ih _ _ _ _ a2 M (hm.2.1 hlt)).2.1 rfl (i2 (by decide)) (i3 (by decide))
          rcases i1 with i1 | ⟨i1, i4⟩
          · refine ⟨fun hb => ?_, fun hb => Ex_trans step (Ex_trans i1 (j.2 hb))⟩
            obtain ⟨j1, j2, j3, j4⟩ := j.1 hb
            refine ⟨?_, j2, j3, j4⟩
            rcases j1 with j1 | ⟨j1, j5⟩
            · exact Or.inl (Rc_trans step (Rc_trans i1 j1))
            · exact Or.inr ⟨j1, Ex_trans step (Ex_trans i1 j5)⟩
          · obtain ⟨rfl, rfl⟩ := rest_D (s := re s1 k 0) i1 (Or.inl rfl) a2
            have d := D_ne i1
            exact ⟨fun _ => ⟨Or.inr ⟨i1, Ex_trans step i4⟩, d.2.2.2.1, d.2.2.1, d.1, d.2.1⟩, fun h => by cases h⟩
        · exact ⟨fun h => (by cases h), fun _ => Ex_trans step (((ih _ _ _ _ a1 M hlt).1 (by decide)).2 rfl)⟩
      by_cases c1 : cat T s.1 = 43
      · rw [if_pos c1] at hr; exact op 4 43 c1 (Or.inl rfl) hr
      rw [if_neg c1] at hr
      by_cases c2 : cat T s.1 = 45
      · rw [if_pos c2] at hr; exact op 5 45 c2 (Or.inr (Or.inl rfl)) hr
      rw [if_neg c2] at hr
      cases hr
      exact ⟨fun _ => ⟨Or.inl Rc_refl, h46, h42, c1, c2⟩, fun h => by cases h⟩
    · intro w6 h46
      subst w6
      rw [if_neg (by decide), if_neg (by decide), if_neg (by decide), if_neg (by decide), if_neg (by decide), if_pos rfl] at hr
      by_cases c1 : cat T s.1 = 42
      · rw [if_pos c1] at hr
        have hlt := cat_eq c1 (by decide)
        have step : Rc T (s.1, M, false) (s.1 + 1, M, true) := Rc_1 (by show s.1 ≤ 40; omega) (sc_op c1 (Or.inr (Or.inr rfl))) (Nat.lt_succ_self _)
        rcases bb_some hr with ⟨s1, a1, a2⟩ | ⟨rfl, a1⟩
        · have hm := rR_mono _ _ _ _ _ a1
          obtain ⟨i1, i2, -, -⟩ := ((ih _ _ _ _ a1 M hlt).1 (by decide)).1 rfl
          have j := (ih _ _ _ _ a2 M (hm.2.1 hlt)).2.2.1 rfl (i2 (by decide))
          rcases i1 with i1 | ⟨i1, i4⟩
          · refine ⟨fun hb => ?_, fun hb => Ex_trans step (Ex_trans i1 (j.2 hb))⟩
            obtain ⟨j1, j2, j3⟩ := j.1 hb
            refine ⟨?_, j2, j3⟩
            rcases j1 with j1 | ⟨j1, j5⟩
            · exact Or.inl (Rc_trans step (Rc_trans i1 j1))
            · exact Or.inr ⟨j1, Ex_trans step (Ex_trans i1 j5)⟩
          · obtain ⟨rfl, rfl⟩ := rest_D (s := re s1 6 0) i1 (Or.inr (Or.inl rfl)) a2
            have d := D_ne i1
            exact ⟨fun _ => ⟨Or.inr ⟨i1, Ex_trans step i4⟩, d.2.2.2.1, d.2.2.1⟩, fun h => by cases h⟩
        · exact ⟨fun h => (by cases h), fun _ => Ex_trans step (((ih _ _ _ _ a1 M hlt).1 (by decide)).2 rfl)⟩
      rw [if_neg c1] at hr
      cases hr
      exact ⟨fun _ => ⟨Or.inl Rc_refl, h46, c1⟩, fun h => by cases h⟩
    · intro w7
      subst w7
      rw [if_neg (by decide), if_neg (by decide), if_neg (by decide), if_neg (by decide), if_neg (by decide), if_neg (by decide), if_pos rfl] at hr
      by_cases c1 : cat T s.1 = 46
      · rw [if_pos c1] at hr
        have hlt := cat_eq c1 (by decide)
        by_cases c2 : isD (cat T (s.1 + 1)) = true
        · rw [if_pos c2] at hr
          have hlt2 := isD_lt c2
          have step : Rc T (s.1, M, false) (s.1 + 2, M, false) := Rc_1 (by show s.1 ≤ 40; omega) (by rw [sc_dot c1, if_pos c2]) (by show s.1 < s.1 + 2; omega)
          have j := (ih _ _ _ _ hr M hlt2).2.2.2.1 rfl
          refine ⟨fun hb => ?_, fun hb => Ex_trans step (j.2 hb)⟩
          obtain ⟨j1, j2⟩ := j.1 hb
          refine ⟨?_, j2⟩
          rcases j1 with j1 | ⟨j1, j5⟩
          · exact Or.inl (Rc_trans step j1)
          · exact Or.inr ⟨j1, Ex_trans step j5⟩
        · rw [if_neg c2] at hr
          cases hr
          exact ⟨fun h => (by cases h), fun _ => Ex_1 (by show s.1 ≤ 40; omega) (by rw [sc_dot c1, if_neg c2]; rfl)⟩
      · rw [if_neg c1] at hr
        cases hr
        exact ⟨fun _ => ⟨Or.inl Rc_refl, c1⟩, fun h => by cases h⟩
    · intro w8 w15
      rw [if_neg (by omega), if_neg (by omega), if_neg (by omega), if_neg (by omega), if_neg (by omega), if_neg (by omega), if_neg (by omega)] at hr
      rcases bb_some hr with ⟨s1, a1, a2⟩ | ⟨rfl, a1⟩
      · have hm := rR_mono _ _ _ _ _ a1
        have hp1 := hm.2.1 hp
        obtain ⟨i1, i2, i3, i4⟩ := ((ih _ _ _ _ a1 ((91, w - 7) :: M) hp).1 (by decide)).1 rfl
        have k1 := i2 (by decide); have k2 := i3 (by decide); have k3 := i4 rfl
        have hin := sc_in (k := 91) (c := w - 7) (M := M) k1 k3.1 k3.2 k2
        by_cases c1 : cat T s1.1 = 93
        · rw [if_pos c1] at a2
          cases a2
          refine ⟨fun _ => ?_, fun h => by cases h⟩
          rcases i1 with i1 | ⟨i1, -⟩
          · refine Or.inl (Rc_trans i1 (Rc_1 (by show s1.1 ≤ 40; omega) ?_ (Nat.lt_succ_self _)))
            rw [hin, if_pos (Or.inr ⟨c1, rfl⟩)]; rfl
          · exact absurd c1 (D_ne i1).2.2.2.2.2.1
        rw [if_neg c1] at a2
        have bad : ¬ (cat T s1.1 = 44 ∧ w - 7 < 8) → (b, s') = (false, re s1 9 0) → (b = true → Ok1 T (s.1, (91, w - 7) :: M, true) s'.1 M) ∧ (b = false → Ex T (s.1, (91, w - 7) :: M, true) (false, s'.1)) := by
          intro hno e
          cases e
          refine ⟨fun h => (by cases h), fun _ => ?_⟩
          rcases i1 with i1 | ⟨-, i5⟩
          · refine Ex_trans i1 (Ex_1 (by show s1.1 ≤ 40; omega) ?_)
            rw [hin, if_neg (fun hh => hh.elim (fun h => h.2 rfl) (fun h => c1 h.1)), if_neg (by rintro ⟨h1, -, h2⟩; exact hno ⟨h1, h2⟩)]; rfl
          · exact i5
        by_cases w15' : w = 15
        · rw [if_pos w15'] at a2
          exact bad (by rintro ⟨-, h⟩; omega) (Option.some.inj a2).symm
        rw [if_neg w15'] at a2
        by_cases c2 : cat T s1.1 = 44
        · rw [if_pos c2] at a2
          have hlt := cat_eq c2 (by decide)
          have j := (ih _ _ _ _ a2 M hlt).2.2.2.2 (by omega) (by omega)
          have e7 : w + 1 - 7 = w - 7 + 1 := by omega
          rw [e7] at j
          rcases i1 with i1 | ⟨i1, -⟩
          · have step : Rc T (s1.1, (91, w - 7) :: M, false) (s1.1 + 1, (91, w - 7 + 1) :: M, true) := by
              refine Rc_1 (by show s1.1 ≤ 40; omega) ?_ (Nat.lt_succ_self _)
              rw [hin, if_neg (fun hh => hh.elim (fun h => h.2 rfl) (fun h => c1 h.1)), if_pos ⟨c2, rfl, by omega⟩]
            refine ⟨fun hb => ?_, fun hb => Ex_trans i1 (Ex_trans step (j.2 hb))⟩
            rcases j.1 hb with j1 | ⟨j1, j5⟩
            · exact Or.inl (Rc_trans i1 (Rc_trans step j1))
            · exact Or.inr ⟨j1, Ex_trans i1 (Ex_trans step j5)⟩
          · exact absurd c2 (D_ne i1).2.2.2.2.2.2.1
        rw [if_neg c2] at a2
        exact bad (by rintro ⟨h, -⟩; exact c2 h) (Option.some.inj a2).symm
      · exact ⟨fun h => (by cases h), fun _ => ((ih _ _ _ _ a1 ((91, w - 7) :: M) hp).1 (by decide)).2 rfl⟩
end S51
