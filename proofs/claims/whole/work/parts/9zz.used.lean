/-! ===== a run that goes well found a value of each name that the cell uses ===== -/
def stn (C : List ST) (j : Nat) : Prop := ∃ a ∈ C, (a.1 = 12 ∨ a.1 = 13) ∧ a.2.1.toNatClampNeg = j
/-- the name j is asked for ahead of any value put under it -/
def ufs (C : List ST) (j : Nat) : Prop := ∃ A a B, C = A ++ a :: B ∧ (a.1 = 1 ∨ a.1 = 11) ∧ a.2.1 = Int32.ofNat j ∧ ¬ stn A j
/-- what a part of an expression adds to the code and to the uses -/
def UC (s s' : RS) : Prop := s'.2.2.2.1 = s.2.2.2.1 ∧ ∃ C : List ST, s'.2.1 = s.2.1 ++ C ∧ (∀ a ∈ C, ¬ (a.1 = 12 ∨ a.1 = 13)) ∧ (s'.2.1.length ≤ 40 → ∀ j, j < 26 → bt s'.2.2.2.2.2.2 j = true → bt s.2.2.2.2.2.2 j = true ∨ (bt s.2.2.2.1 j = false ∧ ∃ a ∈ C, a.1 = 1 ∧ a.2.1 = Int32.ofNat j))
section S9zz
variable {T : List Int32} {p : DP} {lang : Int32}
theorem UC_0 {s s' : RS} (h : s'.2 = s.2) : UC s s' := by
  obtain ⟨a, b⟩ := s
  obtain ⟨a', b'⟩ := s'
  have h' : b' = b := h
  subst h'
  exact ⟨rfl, [], by rw [List.append_nil], fun a ha => (by cases ha), fun _ j _ hj => Or.inl hj⟩
theorem UC_ra {s : RS} : UC s (ra s) := UC_0 rfl
theorem UC_refl {s : RS} : UC s s := UC_0 rfl
theorem UC_trans {a b c : RS} (x : UC a b) (y : UC b c) : UC a c := by
  obtain ⟨x1, C, x2, x3, x4⟩ := x
  obtain ⟨y1, D, y2, y3, y4⟩ := y
  refine ⟨y1.trans x1, C ++ D, by rw [y2, x2, List.append_assoc], fun z hz => ?_, fun hl j hj hb => ?_⟩
  · rcases List.mem_append.mp hz with h | h
    · exact x3 z h
    · exact y3 z h
  · have hlb : b.2.1.length ≤ 40 := by rw [y2, List.length_append] at hl; omega
    rcases y4 hl j hj hb with h | ⟨h1, z, h2, h3⟩
    · rcases x4 hlb j hj h with h | ⟨h1, z, h2, h3⟩
      · exact Or.inl h
      · exact Or.inr ⟨h1, z, List.mem_append_left _ h2, h3⟩
    · exact Or.inr ⟨by rw [← x1]; exact h1, z, List.mem_append_right _ h2, h3⟩
theorem re_C {s : RS} {k d : Int32} : ∃ C : List ST, (re s k d).2.1 = s.2.1 ++ C ∧ (∀ a ∈ C, a = (k, d, Int32.ofNat s.2.2.1)) ∧ (s.2.1.length < 41 → C = [(k, d, Int32.ofNat s.2.2.1)]) := by
  by_cases hl : s.2.1.length < 41
  · exact ⟨[(k, d, Int32.ofNat s.2.2.1)], re_app hl, fun a ha => List.mem_singleton.mp ha, fun _ => rfl⟩
  · refine ⟨[], ?_, fun a ha => (by cases ha), fun h => absurd h hl⟩
    show (if s.2.1.length < 41 then _ else _) = _
    rw [if_neg hl, List.append_nil]
theorem UC_re {s : RS} {k d : Int32} (hk : ¬ (k = 12 ∨ k = 13)) : UC s (re s k d) := by
  obtain ⟨C, c1, c2, -⟩ := re_C (s := s) (k := k) (d := d)
  exact ⟨rfl, C, c1, fun a ha => by rw [c2 a ha]; exact hk, fun _ j _ hj => Or.inl hj⟩
theorem rsp_UC {s : RS} (h : (rsp T s).1 = true) : UC s (rsp T s).2 := by
  unfold rsp at h ⊢
  by_cases c1 : isD (cat T s.1) = true
  · rw [if_pos c1]
    exact UC_trans (b := ((dgs T 6 s.1 (-1)).2, s.2)) (UC_0 rfl) (UC_re (by decide))
  rw [if_neg c1] at h ⊢
  by_cases c2 : cat T s.1 = 63
  · rw [if_pos c2]; exact UC_trans UC_ra (UC_re (by decide))
  rw [if_neg c2] at h ⊢
  by_cases c3 : cat T s.1 = 64
  · rw [if_pos c3]; exact UC_trans UC_ra (UC_re (by decide))
  rw [if_neg c3] at h ⊢
  by_cases c4 : isL (cat T s.1) = true
  · rw [if_pos c4]
    obtain ⟨l, hl, e1, e2⟩ := L_nat c4
    obtain ⟨C, d1, d2, d3⟩ := re_C (s := ra s) (k := 1) (d := cat T s.1 - 97)
    refine ⟨rfl, C, d1, fun a ha => by rw [d2 a ha]; exact (by decide : ¬ ((1 : Int32) = 12 ∨ (1 : Int32) = 13)), fun hlen j hj hb => ?_⟩
    have hb' : bt (s.2.2.2.2.2.2 ||| (if v_126 s.2.2.2.1 (cat T s.1 - 97) = 0 then (1 <<< ((cat T s.1 - 97) &&& 31)) else 0)) j = true := hb
    have hlen' : (re (ra s) 1 (cat T s.1 - 97)).2.1.length ≤ 40 := hlen
    have hs41 : (ra s).2.1.length < 41 := by rw [d1, List.length_append] at hlen'; omega
    rw [e2, u_has (by omega), bt_or] at hb'
    cases hk : bt s.2.2.2.1 l with
    | true =>
      left
      rw [hk, if_neg (by decide), bt_zero, Bool.or_false] at hb'
      exact hb'
    | false =>
      rw [hk, if_pos (by decide), bt_one (by omega)] at hb'
      by_cases ej : j = l
      · right
        subst ej
        exact ⟨hk, _, by rw [d3 hs41]; exact List.mem_singleton.mpr rfl, rfl, e2⟩
      · left
        simpa [ej] using hb'
  · rw [if_neg c4] at h; cases h
theorem rR_UC : ∀ (f w : Nat) (s s' : RS), rR T f w s = some (true, s') → UC s s' := by
  intro f
  induction f with
  | zero => intro w s s' h; cases h
  | succ f ih =>
    intro w s s' h
    have two : ∀ w1 w2, bb (rR T f w1 s) (rR T f w2) = some (true, s') → UC s s' := by
      intro w1 w2 h
      rcases bb_some h with ⟨s1, a1, a2⟩ | ⟨h1, -⟩
      · exact UC_trans (ih _ _ _ a1) (ih _ _ _ a2)
      · cases h1
    have op : ∀ w1 w2 k, ¬ (k = 12 ∨ k = 13) → bb (rR T f w1 (ra s)) (fun s' => rR T f w2 (re s' k 0)) = some (true, s') → UC s s' := by
      intro w1 w2 k hn h
      rcases bb_some h with ⟨s1, a1, a2⟩ | ⟨h1, -⟩
      · exact UC_trans UC_ra (UC_trans (ih _ _ _ a1) (UC_trans (UC_re hn) (ih _ _ _ a2)))
      · cases h1
    rw [rR] at h
    by_cases w0 : w = 0
    · rw [if_pos w0] at h; exact two _ _ h
    rw [if_neg w0] at h
    by_cases w1 : w = 1
    · rw [if_pos w1] at h; exact two _ _ h
    rw [if_neg w1] at h
    by_cases w2 : w = 2
    · rw [if_pos w2] at h; exact two _ _ h
    rw [if_neg w2] at h
    by_cases w3 : w = 3
    · rw [if_pos w3] at h
      by_cases c1 : cat T s.1 = 35
      · rw [if_pos c1] at h
        split at h
        · rename_i b1 s1 hs1
          have e1 : b1 = true := by cases h; rfl
          have e2 : s' = re s1 8 0 := by cases h; rfl
          rw [e1] at hs1
          rw [e2]
          exact UC_trans UC_ra (UC_trans (ih _ _ _ hs1) (UC_re (by decide)))
        · cases h
      rw [if_neg c1] at h
      by_cases c2 : cat T s.1 = 40
      · rw [if_pos c2] at h
        rcases bb_some h with ⟨s1, a1, a2⟩ | ⟨h1, -⟩
        · split at a2
          · have e2 : s' = ra s1 := by cases a2; rfl
            rw [e2]
            exact UC_trans UC_ra (UC_trans (ih _ _ _ a1) UC_ra)
          · cases a2
        · cases h1
      rw [if_neg c2] at h
      by_cases c3 : cat T s.1 = 91
      · rw [if_pos c3] at h
        exact UC_trans UC_ra (ih _ _ _ h)
      rw [if_neg c3] at h
      have e : rsp T s = (true, s') := Option.some.inj h
      have := rsp_UC (T := T) (s := s) (by rw [e])
      rw [e] at this; exact this
    rw [if_neg w3] at h
    by_cases w5 : w = 5
    · rw [if_pos w5] at h
      by_cases c1 : cat T s.1 = 43
      · rw [if_pos c1] at h; exact op _ _ _ (by decide) h
      rw [if_neg c1] at h
      by_cases c2 : cat T s.1 = 45
      · rw [if_pos c2] at h; exact op _ _ _ (by decide) h
      rw [if_neg c2] at h
      have e2 : s' = s := by cases h; rfl
      rw [e2]; exact UC_refl
    rw [if_neg w5] at h
    by_cases w6 : w = 6
    · rw [if_pos w6] at h
      by_cases c1 : cat T s.1 = 42
      · rw [if_pos c1] at h; exact op _ _ _ (by decide) h
      rw [if_neg c1] at h
      have e2 : s' = s := by cases h; rfl
      rw [e2]; exact UC_refl
    rw [if_neg w6] at h
    by_cases w7 : w = 7
    · rw [if_pos w7] at h
      by_cases c1 : cat T s.1 = 46
      · rw [if_pos c1] at h
        by_cases c2 : isD (cat T (s.1 + 1)) = true
        · rw [if_pos c2] at h
          exact UC_trans UC_ra (UC_trans (UC_re (k := 7) (d := cat T (s.1 + 1) - 48) (by decide)) (UC_trans UC_ra (ih _ _ _ h)))
        · rw [if_neg c2] at h; cases h
      rw [if_neg c1] at h
      have e2 : s' = s := by cases h; rfl
      rw [e2]; exact UC_refl
    rw [if_neg w7] at h
    rcases bb_some h with ⟨s1, a1, a2⟩ | ⟨h1, -⟩
    · have u1 := ih _ _ _ a1
      have u2 : UC s1 (ra (re s1 9 0)) := UC_trans (UC_re (by decide)) UC_ra
      by_cases c1 : cat T s1.1 = 93
      · rw [if_pos c1] at a2
        have e2 : s' = re (ra (re s1 9 0)) 10 (Int32.ofNat (w - 7)) := by cases a2; rfl
        rw [e2]
        exact UC_trans u1 (UC_trans u2 (UC_re (by decide)))
      rw [if_neg c1] at a2
      by_cases w15 : w = 15
      · rw [if_pos w15] at a2; cases a2
      rw [if_neg w15] at a2
      by_cases c2 : cat T s1.1 = 44
      · rw [if_pos c2] at a2
        exact UC_trans u1 (UC_trans u2 (ih _ _ _ a2))
      · rw [if_neg c2] at a2; cases a2
    · cases h1
/-- what holds of code, names known, defined and used -/
def UI (s : RS) : Prop := ∀ j, j < 26 → (bt s.2.2.2.2.2.2 j = true → ufs s.2.1 j) ∧ (stn s.2.1 j → bt s.2.2.2.1 j = true) ∧ (bt s.2.2.2.1 j = true → bt s.2.2.2.2.1 j = true ∨ bt s.2.2.2.2.2.2 j = true)
theorem ufs_app {C D : List ST} {j : Nat} (h : ufs C j) : ufs (C ++ D) j := by
  obtain ⟨A, a, B, h1, h2, h3, h4⟩ := h
  exact ⟨A, a, B ++ D, by rw [h1, List.append_assoc, List.cons_append], h2, h3, h4⟩
theorem stn_app {C D : List ST} {j : Nat} : stn (C ++ D) j ↔ stn C j ∨ stn D j := by
  constructor
  · rintro ⟨a, h1, h2⟩
    rcases List.mem_append.mp h1 with h | h
    · exact Or.inl ⟨a, h, h2⟩
    · exact Or.inr ⟨a, h, h2⟩
  · rintro (⟨a, h1, h2⟩ | ⟨a, h1, h2⟩)
    · exact ⟨a, List.mem_append_left _ h1, h2⟩
    · exact ⟨a, List.mem_append_right _ h1, h2⟩
theorem stn_no {C : List ST} {j : Nat} (h : ∀ a ∈ C, ¬ (a.1 = 12 ∨ a.1 = 13)) : ¬ stn C j := fun ⟨a, h1, h2, _⟩ => h a h1 h2
/-- an expression keeps it -/
theorem UI_rex (hT : T.length ≤ 40) {s : RS} (hp : s.1 ≤ T.length) (hl : s.2.1.length ≤ s.1) (h : (rex T s).1 = true) (H : UI s) : UI (rex T s).2 ∧ (rex T s).2.2.2.2.1 = s.2.2.2.1 ∧ (rex T s).2.2.2.2.2.1 = s.2.2.2.2.1 ∧ (∀ j, j < 26 → bt s.2.2.2.2.2.2 j = true → bt (rex T s).2.2.2.2.2.2.2 j = true) ∧ (∃ C, (rex T s).2.2.1 = s.2.1 ++ C) ∧ (rex T s).2.2.1.length ≤ 40 := by
  have e := rex_E hT hp
  rw [show rex T s = (true, (rex T s).2) by rw [← h]] at e
  obtain ⟨k1, C, k2, k3, k4⟩ := rR_UC 400 0 s (rex T s).2 e
  obtain ⟨u1, u2, u3, u4, u5, u6⟩ := rR_US 400 0 s (rex T s).2 e
  obtain ⟨n, a, b, c⟩ := rex_CE hT hp hl h
  have hlen := CE_len a
  have h40 : (rex T s).2.2.1.length ≤ 40 := by omega
  have hus : ∀ j, j < 26 → bt s.2.2.2.2.2.2 j = true → bt (rex T s).2.2.2.2.2.2.2 j = true := fun j hj hb => by rw [u6 j (by omega), hb]; rfl
  refine ⟨fun j hj => ⟨fun hb => ?_, fun hb => ?_, fun hb => ?_⟩, k1, u3, hus, ⟨C, k2⟩, h40⟩
  · rw [k2]
    rcases k4 h40 j hj hb with h1 | ⟨h1, z, h2, h3, h4⟩
    · exact ufs_app ((H j hj).1 h1)
    · obtain ⟨A, B, hAB⟩ := List.append_of_mem h2
      refine ⟨s.2.1 ++ A, z, B, by rw [hAB, List.append_assoc], Or.inl h3, h4, fun hs => ?_⟩
      rcases stn_app.mp hs with hs | hs
      · rw [(H j hj).2.1 hs] at h1; cases h1
      · exact stn_no (fun x hx => k3 x (by rw [hAB]; exact List.mem_append_left _ hx)) hs
  · rw [k2] at hb
    rw [k1]
    rcases stn_app.mp hb with hs | hs
    · exact (H j hj).2.1 hs
    · exact absurd hs (stn_no k3)
  · rw [k1] at hb
    rw [u3]
    rcases (H j hj).2.2 hb with h1 | h1
    · exact Or.inl h1
    · exact Or.inr (hus j hj h1)
theorem rst_UI (hT : T.length ≤ 40) {s : RS} (hp : s.1 ≤ T.length) (hl : s.2.1.length ≤ s.1) (h : (rst T s).1 = true) (H : UI s) : UI (rst T s).2 := by
  have let26 : ∀ x, sgn T s.1 = x → ¬ x = -1 → ∃ l, l < 26 ∧ cat T s.1 - 97 = Int32.ofNat l := by
    intro x hx hn
    unfold sgn at hx
    by_cases hL : isL (cat T s.1) = true
    · obtain ⟨l, hl2, -, e2⟩ := L_nat hL
      exact ⟨l, hl2, e2⟩
    · rw [if_neg hL] at hx; exact absurd hx.symm hn
  have one : ∀ {k : Int32} {l j : Nat} {z : Int32}, l < 26 → stn [(k, Int32.ofNat l, z)] j → j = l := by
    intro k l j z hl2 ⟨a, h1, h2, h3⟩
    rw [List.mem_singleton] at h1
    subst h1
    have h3' : (Int32.ofNat l).toNatClampNeg = j := h3
    rw [u_cl (by omega)] at h3'
    exact h3'.symm
  by_cases c1 : sgn T s.1 = 61
  · have hlt := sgn_lt (Or.inl c1)
    obtain ⟨l, hl2, e2⟩ := let26 61 c1 (by decide)
    have hr : rst T s = rst2 T 61 (Int32.ofNat l) (ra (ra (rstart s))) := by unfold rst; rw [if_pos c1, e2]
    rw [hr] at h ⊢
    have hb : (rex T (ra (ra (rstart s)))).1 = true := by rw [← (rst2_pl (sg := 61) (x := Int32.ofNat l)).1]; exact h
    obtain ⟨i1, i2, i3, i4, -, i6⟩ := UI_rex hT (s := ra (ra (rstart s))) hlt (by show s.2.1.length ≤ s.1 + 1 + 1; omega) hb H
    unfold rst2
    rw [if_pos hb]
    dsimp only
    rw [if_pos rfl]
    obtain ⟨C, d1, d2, -⟩ := re_C (s := (rex T (ra (ra (rstart s)))).2) (k := 12) (d := Int32.ofNat l)
    intro j hj
    obtain ⟨q1, q2, q3⟩ := i1 j hj
    refine ⟨fun hbt => ?_, fun hs => ?_, fun hk => ?_⟩
    · show ufs (re (rex T (ra (ra (rstart s)))).2 12 (Int32.ofNat l)).2.1 j
      rw [d1]; exact ufs_app (q1 hbt)
    · have hs' : stn (re (rex T (ra (ra (rstart s)))).2 12 (Int32.ofNat l)).2.1 j := hs
      show bt ((rex T (ra (ra (rstart s)))).2.2.2.2.1 ||| (1 <<< (Int32.ofNat l &&& 31))) j = true
      rw [d1] at hs'
      rw [bt_or, bt_one (by omega)]
      rcases stn_app.mp hs' with h1 | ⟨a, h1, h2, h3⟩
      · rw [q2 h1]; rfl
      · have h3' : (Int32.ofNat l).toNatClampNeg = j := by rw [d2 a h1] at h3; exact h3
        rw [u_cl (by omega)] at h3'
        simp [h3']
    · have hk' : bt ((rex T (ra (ra (rstart s)))).2.2.2.2.1 ||| (1 <<< (Int32.ofNat l &&& 31))) j = true := hk
      show bt ((rex T (ra (ra (rstart s)))).2.2.2.2.2.1 ||| (1 <<< (Int32.ofNat l &&& 31))) j = true ∨ bt (rex T (ra (ra (rstart s)))).2.2.2.2.2.2.2 j = true
      rw [bt_or, bt_one (by omega)] at hk' ⊢
      rcases Bool.or_eq_true_iff.mp hk' with h1 | h1
      · rcases q3 h1 with h2 | h2
        · left; rw [h2]; rfl
        · exact Or.inr h2
      · left; rw [h1, Bool.or_true]
  by_cases c2 : sgn T s.1 = 33
  · have hlt := sgn_lt (Or.inr c2)
    obtain ⟨l, hl2, e2⟩ := let26 33 c2 (by decide)
    have hr : rst T s = rst2 T 33 (Int32.ofNat l) (re (ra (ra (rstart s))) 11 (Int32.ofNat l)) := by unfold rst; rw [if_neg c1, if_pos c2, e2]
    rw [hr] at h ⊢
    have hlen1 : (ra (ra (rstart s))).2.1.length < 41 := by show s.2.1.length < 41; omega
    have e11 := re_app (s := ra (ra (rstart s))) (k := 11) (x := Int32.ofNat l) hlen1
    generalize hs0 : re (ra (ra (rstart s))) 11 (Int32.ofNat l) = s0 at *
    have s0p : s0.1 = s.1 + 1 + 1 := by rw [← hs0]; rfl
    have s0k : s0.2.2.2.1 = s.2.2.2.1 := by rw [← hs0]; rfl
    have s0d : s0.2.2.2.2.1 = s.2.2.2.2.1 := by rw [← hs0]; rfl
    have s0u : s0.2.2.2.2.2.2 = s.2.2.2.2.2.2 := by rw [← hs0]; rfl
    have s0c : s0.2.1 = s.2.1 ++ [(11, Int32.ofNat l, Int32.ofNat s.1)] := e11
    have H0 : UI s0 := by
      intro j hj
      obtain ⟨q1, q2, q3⟩ := H j hj
      refine ⟨fun hbt => ?_, fun hs => ?_, fun hk => ?_⟩
      · rw [s0u] at hbt; rw [s0c]; exact ufs_app (q1 hbt)
      · rw [s0c] at hs; rw [s0k]
        rcases stn_app.mp hs with h1 | h1
        · exact q2 h1
        · exact absurd h1 (stn_no (fun a ha => by rw [List.mem_singleton.mp ha]; exact (by decide : ¬ ((11 : Int32) = 12 ∨ (11 : Int32) = 13))))
      · rw [s0k] at hk; rw [s0d, s0u]; exact q3 hk
    have hb : (rex T s0).1 = true := by rw [← (rst2_pl (sg := 33) (x := Int32.ofNat l)).1]; exact h
    obtain ⟨i1, i2, i3, i4, ⟨C0, i5⟩, i6⟩ := UI_rex hT (s := s0) (by rw [s0p]; exact hlt) (by rw [s0c, List.length_append, s0p]; show s.2.1.length + 1 ≤ _; omega) hb H0
    unfold rst2
    rw [if_pos hb]
    dsimp only
    rw [if_neg (by decide)]
    obtain ⟨C, d1, d2, -⟩ := re_C (s := (rex T s0).2) (k := 13) (d := Int32.ofNat l)
    have st' : ∀ j, j < 26 → stn (re (rex T s0).2 13 (Int32.ofNat l)).2.1 j → bt ((rex T s0).2.2.2.2.1 ||| (1 <<< (Int32.ofNat l &&& 31))) j = true := by
      intro j hj hs
      rw [d1] at hs
      rw [bt_or, bt_one (by omega)]
      rcases stn_app.mp hs with h1 | ⟨a, h1, h2, h3⟩
      · rw [(i1 j hj).2.1 h1]; rfl
      · have h3' : (Int32.ofNat l).toNatClampNeg = j := by rw [d2 a h1] at h3; exact h3
        rw [u_cl (by omega)] at h3'
        simp [h3']
    by_cases cv : v_126 (rex T s0).2.2.2.2.2.1 (Int32.ofNat l) = 0
    · rw [if_pos cv]
      have cv' : bt s.2.2.2.2.1 l = false := by
        rw [u_has (by omega), i3, s0d] at cv
        cases hc : bt s.2.2.2.2.1 l with
        | false => rfl
        | true => rw [hc, if_pos rfl] at cv; exact absurd cv (by decide)
      have hul : ufs (rex T s0).2.2.1 l := by
        cases hk : bt s.2.2.2.1 l with
        | true =>
          rcases (H l hl2).2.2 hk with h1 | h1
          · rw [h1] at cv'; cases cv'
          · rw [i5, s0c]; exact ufs_app (ufs_app ((H l hl2).1 h1))
        | false =>
          rw [i5, s0c]
          refine ufs_app ⟨s.2.1, _, [], rfl, Or.inr rfl, rfl, fun hs => ?_⟩
          rw [(H l hl2).2.1 hs] at hk; cases hk
      intro j hj
      obtain ⟨q1, q2, q3⟩ := i1 j hj
      refine ⟨fun hbt => ?_, st' j hj, fun hk => ?_⟩
      · have hbt' : bt ((rex T s0).2.2.2.2.2.2.2 ||| (1 <<< (Int32.ofNat l &&& 31))) j = true := hbt
        show ufs (re (rex T s0).2 13 (Int32.ofNat l)).2.1 j
        rw [d1]
        rw [bt_or, bt_one (by omega)] at hbt'
        rcases Bool.or_eq_true_iff.mp hbt' with h1 | h1
        · exact ufs_app (q1 h1)
        · have : j = l := of_decide_eq_true h1
          subst this; exact ufs_app hul
      · have hk' : bt ((rex T s0).2.2.2.2.1 ||| (1 <<< (Int32.ofNat l &&& 31))) j = true := hk
        show bt (rex T s0).2.2.2.2.2.1 j = true ∨ bt ((rex T s0).2.2.2.2.2.2.2 ||| (1 <<< (Int32.ofNat l &&& 31))) j = true
        rw [bt_or, bt_one (by omega)] at hk' ⊢
        rcases Bool.or_eq_true_iff.mp hk' with h1 | h1
        · rcases q3 h1 with h2 | h2
          · exact Or.inl h2
          · right; rw [h2]; rfl
        · right; rw [h1, Bool.or_true]
    · rw [if_neg cv]
      have cv' : bt (rex T s0).2.2.2.2.2.1 l = true := by
        rw [u_has (by omega)] at cv
        cases hc : bt (rex T s0).2.2.2.2.2.1 l with
        | true => rfl
        | false => rw [hc] at cv; exact absurd rfl cv
      intro j hj
      obtain ⟨q1, q2, q3⟩ := i1 j hj
      refine ⟨fun hbt => ?_, st' j hj, fun hk => ?_⟩
      · show ufs (re (rex T s0).2 13 (Int32.ofNat l)).2.1 j
        rw [d1]; exact ufs_app (q1 hbt)
      · have hk' : bt ((rex T s0).2.2.2.2.1 ||| (1 <<< (Int32.ofNat l &&& 31))) j = true := hk
        show bt (rex T s0).2.2.2.2.2.1 j = true ∨ bt (rex T s0).2.2.2.2.2.2.2 j = true
        rw [bt_or, bt_one (by omega)] at hk'
        rcases Bool.or_eq_true_iff.mp hk' with h1 | h1
        · exact q3 h1
        · have : j = l := of_decide_eq_true h1
          subst this; exact Or.inl cv'
  have hr : rst T s = ((rex T (rstart s)).1, re (rex T (rstart s)).2 14 0) := by unfold rst; rw [if_neg c1, if_neg c2]
  rw [hr] at h ⊢
  obtain ⟨i1, i2, i3, i4, -, i6⟩ := UI_rex hT (s := rstart s) hp hl h H
  obtain ⟨C, d1, d2, -⟩ := re_C (s := (rex T (rstart s)).2) (k := 14) (d := 0)
  intro j hj
  obtain ⟨q1, q2, q3⟩ := i1 j hj
  refine ⟨fun hbt => ?_, fun hs => ?_, q3⟩
  · show ufs (re (rex T (rstart s)).2 14 0).2.1 j
    rw [d1]; exact ufs_app (q1 hbt)
  · have hs' : stn (re (rex T (rstart s)).2 14 0).2.1 j := hs
    rw [d1] at hs'
    rcases stn_app.mp hs' with h1 | h1
    · exact q2 h1
    · exact absurd h1 (stn_no (fun a ha => by rw [d2 a ha]; exact (by decide : ¬ ((14 : Int32) = 12 ∨ (14 : Int32) = 13))))
theorem rss_UI (hT : T.length ≤ 40) : ∀ (f : Nat) (s : RS), s.1 ≤ T.length → s.2.1.length ≤ s.1 → (rss T f s).1 = true → UI s → UI (rss T f s).2 := by
  intro f
  induction f with
  | zero => intro s _ _ h; cases h
  | succ f ih =>
    intro s hp hl h H
    simp only [rss] at h ⊢
    by_cases hb : (rst T s).1 = true
    · simp only [hb, if_true] at h ⊢
      obtain ⟨n, a, b⟩ := rst_CE hT hp hl hb
      have hn := CE_len a
      have hn' : (rst T s).2.2.1.length = s.2.1.length + n := hn
      have H' := rst_UI hT hp hl hb H
      by_cases c : cat T (rst T s).2.1 = 59
      · simp only [c, if_true] at h ⊢
        have hlt := cat_eq c (by decide)
        exact ih (ra (rst T s).2) hlt (by show (rst T s).2.2.1.length ≤ (rst T s).2.1 + 1; omega) h H'
      · simp only [c, if_false] at h ⊢
        exact H'
    · simp only [hb] at h; cases h
/-- a step that goes well, and puts nothing under the name, keeps its value; one that asks for it finds one -/
theorem eup_ne {e : Nat → Option VL} {i j : Nat} {v : Option VL} (h : ¬ i = j) : eup e i v j = e j := by
  unfold eup; rw [if_neg (fun e => h e.symm)]
theorem xs_keep {k d : Int32} {P : PM} {r : Int32 × PM} {j : Nat} (hj : j < 26) (h : xs p k d P = some r) (h0 : r.1 = 0) : (¬ ((k = 12 ∨ k = 13) ∧ d.toNatClampNeg = j) → r.2.1 j = P.1 j) ∧ ((k = 1 ∨ k = 11) → d = Int32.ofNat j → (P.1 j).isSome = true) := by
  have no1 : ¬ (1 : Int32) = 0 := by decide
  have e26 : ¬ 26 = j := by omega
  unfold xs at h
  by_cases e1 : k = 1
  · subst e1
    rw [if_neg (by decide), if_pos rfl] at h
    split at h
    · cases h; exact absurd h0 no1
    · rename_i v hv
      split at h
      · cases h
        exact ⟨fun _ => rfl, fun _ hd => by rw [hd, u_cl (by omega)] at hv; rw [hv]; rfl⟩
      · cases h
  by_cases e11 : k = 11
  · subst e11
    rw [if_neg (by decide), if_neg (by decide), if_neg (by decide), if_neg (by decide), if_neg (by decide), if_neg (by decide), if_neg (by decide), if_neg (by decide), if_pos rfl] at h
    cases h
    refine ⟨fun _ => rfl, fun _ hd => ?_⟩
    have h0' : (if P.1 d.toNatClampNeg = none then (1 : Int32) else 0) = 0 := h0
    rw [hd, u_cl (by omega)] at h0'
    cases hv : P.1 j with
    | some v => rfl
    | none => rw [hv, if_pos rfl] at h0'; exact absurd h0' no1
  refine ⟨fun hn => ?_, fun hh => by rcases hh with hh | hh; exact absurd hh e1; exact absurd hh e11⟩
  by_cases e12 : k = 12
  · subst e12
    rw [if_neg (by decide), if_neg (by decide), if_neg (by decide), if_neg (by decide), if_neg (by decide), if_neg (by decide), if_neg (by decide), if_neg (by decide), if_neg (by decide), if_pos rfl] at h
    split at h
    · cases h; exact eup_ne (fun e => hn ⟨Or.inl rfl, e⟩)
    · cases h
  by_cases e13 : k = 13
  · subst e13
    rw [if_neg (by decide), if_neg (by decide), if_neg (by decide), if_neg (by decide), if_neg (by decide), if_neg (by decide), if_neg (by decide), if_neg (by decide), if_neg (by decide), if_neg (by decide), if_pos rfl] at h
    split at h
    · cases h; exact eup_ne (fun e => hn ⟨Or.inr rfl, e⟩)
    · cases h; rfl
    · cases h
  rw [if_neg e1, if_neg e11, if_neg e12, if_neg e13] at h
  revert h
  repeat' split
  all_goals (intro h; cases h)
  all_goals first | rfl | exact eup_ne e26
theorem qs_keep {k d : Int32} {P : PM} {r : Int32 × PM} {j : Nat} (hj : j < 26) (h : qs p k d P = some r) (h0 : r.1 = 0) : (¬ ((k = 12 ∨ k = 13) ∧ d.toNatClampNeg = j) → r.2.1 j = P.1 j) ∧ ((k = 1 ∨ k = 11) → d = Int32.ofNat j → (P.1 j).isSome = true) := by
  unfold qs at h
  split at h
  · rename_i e
    split at h
    · cases h; exact ⟨fun _ => rfl, fun hh => by rcases e with rfl | rfl | rfl <;> exact absurd hh (by decide)⟩
    · cases h
  split at h
  · rename_i e
    split at h
    · cases h; exact ⟨fun _ => rfl, fun hh => by rcases e with rfl | rfl <;> exact absurd hh (by decide)⟩
    · cases h
  · exact xs_keep hj h h0
theorem yr_used {j : Nat} (hj : j < 26) {a : ST} {B : List ST} (ha : a.1 = 1 ∨ a.1 = 11) (ha2 : a.2.1 = Int32.ofNat j) : ∀ (A : List ST) (P : PM) (r : Int32 × Int32 × PM), yr p (A ++ a :: B) P = some r → r.1 = 0 → ¬ stn A j → (P.1 j).isSome = true := by
  intro A
  induction A with
  | nil =>
    intro P r h h0 _
    simp only [List.nil_append, yr] at h
    cases hq : qs p a.1 a.2.1 P with
    | none => rw [hq] at h; cases h
    | some q =>
      rw [hq] at h
      dsimp only at h
      by_cases e : q.1 = 0
      · exact (qs_keep hj hq e).2 ha ha2
      · rw [if_neg e] at h; cases h; exact absurd h0 e
  | cons b A ih =>
    intro P r h h0 hs
    simp only [List.cons_append, yr] at h
    cases hq : qs p b.1 b.2.1 P with
    | none => rw [hq] at h; cases h
    | some q =>
      rw [hq] at h
      dsimp only at h
      by_cases e : q.1 = 0
      · rw [if_pos e] at h
        have := ih q.2 r h h0 (fun ⟨x, h1, h2⟩ => hs ⟨x, List.mem_cons_of_mem _ h1, h2⟩)
        rw [(qs_keep hj hq e).1 (fun hh => hs ⟨b, List.mem_cons_self .., hh.1, hh.2⟩)] at this
        exact this
      · rw [if_neg e] at h; cases h; exact absurd h0 e
theorem CLS_cov : ∀ (C : List ST) (q : Nat), CLS T C q → ∀ i j, j < 26 → q ≤ i → i < T.length → lb T i j = true → (∃ a ∈ C, a.1 = Int32.ofNat j) ∨ ∃ a ∈ C, bt a.2.1 j = true := by
  intro C
  induction C with
  | nil => intro q h i j _ h1 h2 _; have : q = T.length + 1 := h; omega
  | cons a C ih =>
    intro q h i j hj h1 h2 hb
    obtain ⟨r, hd, a1, a2, a3, a4, a5, a6, a7, a8, a9, a10⟩ := h
    have hb' := hb
    unfold lb at hb
    rw [Bool.and_eq_true, decide_eq_true_eq] at hb
    by_cases e0 : i = q
    · subst e0
      rw [a4, u_inj (by omega) (by omega)] at hb
      exact Or.inl ⟨a, List.mem_cons_self .., by rw [a5]; congr 1; omega⟩
    by_cases e1 : i < r
    · refine Or.inr ⟨a, List.mem_cons_self .., ?_⟩
      rw [a8 j (by omega)]
      exact lbt_iff.mpr ⟨i, by omega, e1, hb'⟩
    by_cases e2 : i = r
    · subst e2
      rcases a9 with h | h
      · omega
      · rw [h] at hb; exact absurd hb.1 (by decide)
    rcases ih (r + 1) a10 i j hj (by omega) h2 hb' with ⟨x, x1, x2⟩ | ⟨x, x1, x2⟩
    · exact Or.inl ⟨x, List.mem_cons_of_mem _ x1, x2⟩
    · exact Or.inr ⟨x, List.mem_cons_of_mem _ x1, x2⟩
/-- found -/
theorem evl_used {e : Nat → Option VL} {d : DR} {r : Int32 × Int32 × PM} (hT : T.length ≤ 40) (hlang : lang = 0 ∨ lang = 1 ∨ lang = 2) (hF : rdF T lang = -1) (hr : evl T lang p e d = some r) (h0 : r.1 = 0) : ∀ j, j < 26 → bt (rdA T lang).2.2.2.2.2.2.2 j = true → (e j).isSome = true := by
  intro j hj hb
  obtain ⟨hA, hE⟩ := rdA_ok hT hlang hF
  rcases hlang with rfl | rfl | rfl
  · unfold evl at hr
    rw [if_neg (by decide)] at hr
    rw [rdA_0] at hA hb hr
    have H0 : UI (0, [], 0, 0, 0, 0, 0) := by
      intro j _
      have z : ∀ j, bt (0 : Int32) j = false := fun j => bt_zero j
      refine ⟨fun h => ?_, fun ⟨a, h, _⟩ => (by cases h), fun h => ?_⟩
      · have h' : bt (0 : Int32) j = true := h
        rw [z] at h'; cases h'
      · have h' : bt (0 : Int32) j = true := h
        rw [z] at h'; cases h'
    obtain ⟨A, a, B, h1, h2, h3, h4⟩ := (rss_UI hT 40 (0, [], 0, 0, 0, 0, 0) (Nat.zero_le _) (Nat.le_refl _) hA H0 j hj).1 hb
    rw [h1] at hr
    exact yr_used hj h2 h3 A (e, [], d) r hr h0 h4
  · unfold evl at hr
    rw [if_neg (by decide)] at hr
    rw [rdA_1] at hA hb hr
    obtain ⟨k1, k2, k3, k4, k5⟩ := rqu_E hA
    obtain ⟨a, b, k, n, p5, p6, x, hQ, e1, -⟩ := rqu_F hA
    obtain ⟨a26, b26, c0, c2, -⟩ := hQ
    have e97 : cat T 2 - 97 = Int32.ofNat b := by
      rw [c2]
      have := u_subL (a := 97 + b) (n := 97) (by omega)
      rw [this]; congr 1; omega
    rw [k5, e97, bt_one (by omega)] at hb
    have : j = b := of_decide_eq_true hb
    subst this
    rw [e1] at hr
    unfold qcd at hr
    exact yr_used (B := [(k, n, 0)] ++ qsc x ++ [(12, Int32.ofNat a, 0), (1, Int32.ofNat a, 0), (14, 0, 0)]) (a := (1, Int32.ofNat j, 0)) hj (Or.inl rfl) rfl [] (e, [], d) r hr h0 (fun ⟨a, h, _⟩ => by cases h)
  · unfold evl at hr
    rw [if_pos rfl] at hr
    rw [rdA_2] at hA hb hr hE
    obtain ⟨k1, k2, k3, k4, k5⟩ := rcl_E 40 0 (0, [], 0, 0, 0, 0, 0) hA (Or.inl rfl)
    obtain ⟨C, c1, c2⟩ := rcl_C hT 40 0 (0, [], 0, 0, 0, 0, 0) (Nat.zero_le _) (Nat.le_refl _) hA (by omega)
    have c1' : (rcl T 40 0 (0, [], 0, 0, 0, 0, 0)).2.2.1 = C := c1
    have hb0 := hb
    rw [k5 j (by omega), hE] at hb
    have z : bt (0 : Int32) j = false := bt_zero j
    rw [z, Bool.false_or, Bool.and_eq_true] at hb
    obtain ⟨i, i1, i2, i3⟩ := lbt_iff.mp hb.1
    unfold rul at hr
    rw [c1'] at hr
    cases hf : C.find? (fun a => unt e (rcl T 40 0 (0, [], 0, 0, 0, 0, 0)).2.2.2.2.2.2.2 a.2.1) with
    | some a => rw [hf] at hr; cases hr; exact absurd h0 (by show ¬ (1 : Int32) = 0; decide)
    | none =>
      have hf' := List.find?_eq_none.mp hf
      rcases CLS_cov C 0 c2 i j hj (Nat.zero_le _) i2 i3 with ⟨a, a1, a2⟩ | ⟨a, a1, a2⟩
      · obtain ⟨hd, h1, h2, h3⟩ := CLS_df C 0 c2 (Or.inl rfl) a a1
        have : hd = j := by rw [h2, u_inj (by omega) (by omega)] at a2; exact a2
        subst this
        have hdf : bt (rcl T 40 0 (0, [], 0, 0, 0, 0, 0)).2.2.2.2.2.1 hd = true := by
          rw [k4 hd (by omega), hE]
          show (bt (0 : Int32) hd || dlt T 0 T.length hd) = true
          rw [h3, Bool.or_true]
        rw [hdf] at hb
        exact absurd hb.2 (by decide)
      · have hu := hf' a a1
        cases hv : e j with
        | some v => rfl
        | none =>
          exfalso
          refine hu ?_
          unfold unt
          refine (anyb_iff 26).mpr ⟨j, hj, ?_⟩
          rw [bt_and, a2, hb0, hv]; rfl
end S9zz
