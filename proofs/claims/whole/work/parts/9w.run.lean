/-! ===== a run that goes well gives each of its names a value ===== -/
/-- the code puts a value under the name j -/
def stc (C : List ST) (j : Nat) : Prop := ∃ a ∈ C, (a.1 = 12 ∨ a.1 = 13) ∧ a.2.1 = Int32.ofNat j
section S9w
variable {T : List Int32} {p : DP} {lang : Int32}
theorem rst2_st (hT : T.length ≤ 40) {s : RS} {sg : Int32} {l : Nat} (hp : s.1 ≤ T.length) (hl : s.2.1.length ≤ s.1) (h : (rst2 T sg (Int32.ofNat l) s).1 = true) : stc (rst2 T sg (Int32.ofNat l) s).2.2.1 l := by
  unfold rst2 at h ⊢
  by_cases hb : (rex T s).1 = true
  · rw [if_pos hb]
    obtain ⟨n, a, b, c⟩ := rex_CE hT hp hl hb
    have hn := CE_len a
    dsimp only
    have hlen : (rex T s).2.2.1.length < 41 := by omega
    by_cases c1 : sg = 61
    · rw [if_pos c1]
      refine ⟨(12, Int32.ofNat l, Int32.ofNat (rex T s).2.2.2.1), ?_, Or.inl rfl, rfl⟩
      show _ ∈ (re (rex T s).2 12 (Int32.ofNat l)).2.1
      rw [re_app hlen]
      exact List.mem_append_right _ (List.mem_singleton.mpr rfl)
    · rw [if_neg c1]
      have hm : ((13, Int32.ofNat l, Int32.ofNat (rex T s).2.2.2.1) : ST) ∈ (re (rex T s).2 13 (Int32.ofNat l)).2.1 := by
        rw [re_app hlen]
        exact List.mem_append_right _ (List.mem_singleton.mpr rfl)
      by_cases c2 : v_126 (rex T s).2.2.2.2.2.1 (Int32.ofNat l) = 0
      · rw [if_pos c2]
        exact ⟨_, hm, Or.inr rfl, rfl⟩
      · rw [if_neg c2]
        exact ⟨_, hm, Or.inr rfl, rfl⟩
  · rw [if_neg hb] at h; cases h
theorem rst_st (hT : T.length ≤ 40) {s : RS} (hp : s.1 ≤ T.length) (hl : s.2.1.length ≤ s.1) (h : (rst T s).1 = true) {j : Nat} (hj : j < 26) (hb : bt ((rst T s).2.2.2.2.2.1 ||| (rst T s).2.2.2.2.2.2.1) j = true) : bt (s.2.2.2.2.1 ||| s.2.2.2.2.2.1) j = true ∨ stc (rst T s).2.2.1 j := by
  obtain ⟨p1, s1, q1, q2, q3, q4, q5, q6, q7, q8, q9, qA, qB, qC⟩ := rst_US hT hp h
  have let26 : ∀ x, sgn T s.1 = x → ¬ x = -1 → ∃ l, l < 26 ∧ cat T s.1 - 97 = Int32.ofNat l := by
    intro x hx hn
    unfold sgn at hx
    by_cases hL : isL (cat T s.1) = true
    · obtain ⟨l, hl2, -, e2⟩ := L_nat hL
      exact ⟨l, hl2, e2⟩
    · rw [if_neg hL] at hx; exact absurd hx.symm hn
  by_cases c1 : sgn T s.1 = 61
  · obtain ⟨l, hl2, e2⟩ := let26 61 c1 (by decide)
    rw [qA c1] at hb
    have hb' : bt ((s.2.2.2.2.1 ||| (1 <<< ((cat T s.1 - 97) &&& 31))) ||| s.2.2.2.2.2.1) j = true := hb
    rw [bt_or, bt_or, e2, bt_one (by omega)] at hb'
    by_cases e : j = l
    · right
      have hlt := sgn_lt (Or.inl c1)
      subst e
      have hr : rst T s = rst2 T 61 (Int32.ofNat j) (ra (ra (rstart s))) := by unfold rst; rw [if_pos c1, e2]
      rw [hr] at h ⊢
      exact rst2_st hT (s := ra (ra (rstart s))) hlt (by show s.2.1.length ≤ s.1 + 1 + 1; omega) h
    · left
      rw [bt_or]
      simpa [e] using hb'
  by_cases c2 : sgn T s.1 = 33
  · obtain ⟨l, hl2, e2⟩ := let26 33 c2 (by decide)
    by_cases e : j = l
    · right
      have hlt := sgn_lt (Or.inr c2)
      subst e
      have hr : rst T s = rst2 T 33 (Int32.ofNat j) (re (ra (ra (rstart s))) 11 (Int32.ofNat j)) := by unfold rst; rw [if_neg c1, if_pos c2, e2]
      rw [hr] at h ⊢
      refine rst2_st hT (s := re (ra (ra (rstart s))) 11 (Int32.ofNat j)) hlt ?_ h
      rw [re_app (by show s.2.1.length < 41; omega), List.length_append]
      show s.2.1.length + 1 ≤ s.1 + 1 + 1
      omega
    · left
      rw [qB c2, e2] at hb
      by_cases hv : v_126 s.2.2.2.2.1 (Int32.ofNat l) = 0
      · rw [if_pos hv] at hb
        have hb' : bt (s.2.2.2.2.1 ||| (s.2.2.2.2.2.1 ||| (1 <<< ((Int32.ofNat l) &&& 31)))) j = true := hb
        rw [bt_or, bt_or, bt_one (by omega)] at hb'
        rw [bt_or]
        simpa [e] using hb'
      · rw [if_neg hv] at hb
        exact hb
  · left
    rw [qC c1 c2] at hb
    exact hb
theorem stc_app {C D : List ST} {j : Nat} (h : stc C j) : stc (C ++ D) j := by
  obtain ⟨a, h1, h2⟩ := h
  exact ⟨a, List.mem_append_left _ h1, h2⟩
theorem rss_st (hT : T.length ≤ 40) : ∀ (f : Nat) (s : RS), s.1 ≤ T.length → s.2.1.length ≤ s.1 → (rss T f s).1 = true → ∀ j, j < 26 → bt ((rss T f s).2.2.2.2.2.1 ||| (rss T f s).2.2.2.2.2.2.1) j = true → bt (s.2.2.2.2.1 ||| s.2.2.2.2.2.1) j = true ∨ stc (rss T f s).2.2.1 j := by
  intro f
  induction f with
  | zero => intro s _ _ h; cases h
  | succ f ih =>
    intro s hp hl h j hj hbt
    simp only [rss] at h hbt ⊢
    by_cases hb : (rst T s).1 = true
    · simp only [hb, if_true] at h hbt ⊢
      obtain ⟨n, a, b⟩ := rst_CE hT hp hl hb
      have hn := CE_len a
      have hn' : (rst T s).2.2.1.length = s.2.1.length + n := hn
      by_cases c : cat T (rst T s).2.1 = 59
      · simp only [c, if_true] at h hbt ⊢
        have hlt := cat_eq c (by decide)
        have hl2 : (ra (rst T s).2).2.1.length ≤ (ra (rst T s).2).1 := by show (rst T s).2.2.1.length ≤ (rst T s).2.1 + 1; omega
        obtain ⟨C2, e2⟩ := rss_C hT f (ra (rst T s).2) hlt hl2 h
        rcases ih (ra (rst T s).2) hlt hl2 h j hj hbt with h1 | h1
        · rcases rst_st hT hp hl hb hj h1 with h2 | h2
          · exact Or.inl h2
          · right
            rw [e2]
            exact stc_app h2
        · exact Or.inr h1
      · simp only [c, if_false] at h hbt ⊢
        exact rst_st hT hp hl hb hj hbt
    · simp only [hb] at h; cases h
theorem eup_some {e : Nat → Option VL} {i : Nat} {v : VL} {j : Nat} (h : (e j).isSome = true) : (eup e i (some v) j).isSome = true := by
  unfold eup; split
  · rfl
  · exact h
theorem xs_some {k d : Int32} {P : PM} {r : Int32 × PM} (h : xs p k d P = some r) (h0 : r.1 = 0) : (∀ j, (P.1 j).isSome = true → (r.2.1 j).isSome = true) ∧ ((k = 12 ∨ k = 13) → (r.2.1 d.toNatClampNeg).isSome = true) := by
  have no1 : ¬ (1 : Int32) = 0 := by decide
  have no2 : ¬ (2 : Int32) = 0 := by decide
  have no3 : ¬ (3 : Int32) = 0 := by decide
  unfold xs at h
  by_cases e0 : k = 0
  · rw [if_pos e0] at h; subst e0
    by_cases c : P.2.1.length < 27
    · rw [if_pos c] at h; cases h; exact ⟨fun j hj => hj, fun hh => absurd hh (by decide)⟩
    · rw [if_neg c] at h; cases h
  rw [if_neg e0] at h
  by_cases e1 : k = 1
  · rw [if_pos e1] at h; subst e1
    cases hv : P.1 d.toNatClampNeg with
    | none => rw [hv] at h; cases h; exact absurd h0 no1
    | some v =>
      rw [hv] at h
      dsimp only at h
      by_cases c : P.2.1.length < 27
      · rw [if_pos c] at h; cases h; exact ⟨fun j hj => hj, fun hh => absurd hh (by decide)⟩
      · rw [if_neg c] at h; cases h
  rw [if_neg e1] at h
  by_cases e2 : k = 2 ∨ k = 3
  · rw [if_pos e2] at h
    by_cases c : P.2.1.length < 27 ∧ P.2.2.1 < 40
    · rw [if_pos c] at h; cases h; exact ⟨fun j hj => hj, fun hh => by rcases e2 with rfl | rfl <;> exact absurd hh (by decide)⟩
    · rw [if_neg c] at h; cases h
  rw [if_neg e2] at h
  by_cases e4 : k = 4 ∨ k = 5 ∨ k = 6
  · rw [if_pos e4] at h
    have hk : ¬ (k = 12 ∨ k = 13) := by rcases e4 with rfl | rfl | rfl <;> decide
    clear e0 e1 e2 e4
    cases hs : P.2.1 with
    | nil => rw [hs] at h; cases h
    | cons b st =>
      rw [hs] at h
      cases st with
      | nil => cases b <;> cases h
      | cons a st =>
        cases b with
        | inl b =>
          cases a with
          | inl a => cases h; exact ⟨fun j hj => hj, fun hh => absurd hh hk⟩
          | inr a => cases h; exact absurd h0 no2
        | inr b => cases h; exact absurd h0 no2
  rw [if_neg e4] at h
  by_cases e7 : k = 7
  · rw [if_pos e7] at h; subst e7
    cases hs : P.2.1 with
    | nil => rw [hs] at h; cases h
    | cons b st =>
      rw [hs] at h
      cases b with
      | inl b => cases h; exact absurd h0 no2
      | inr l =>
        dsimp only at h
        by_cases c : d.toNatClampNeg < l.length
        · rw [if_pos c] at h; cases h; exact ⟨fun j hj => hj, fun hh => absurd hh (by decide)⟩
        · rw [if_neg c] at h; cases h; exact absurd h0 no3
  rw [if_neg e7] at h
  by_cases e8 : k = 8
  · rw [if_pos e8] at h; subst e8
    cases hs : P.2.1 with
    | nil => rw [hs] at h; cases h
    | cons b st =>
      rw [hs] at h
      cases b with
      | inl b => cases h; exact absurd h0 no2
      | inr l => cases h; exact ⟨fun j hj => hj, fun hh => absurd hh (by decide)⟩
  rw [if_neg e8] at h
  by_cases e9 : k = 9
  · rw [if_pos e9] at h; subst e9
    cases hs : P.2.1 with
    | nil => rw [hs] at h; cases h
    | cons b st =>
      rw [hs] at h
      cases b with
      | inr l => cases h; exact absurd h0 no2
      | inl l => cases h; exact ⟨fun j hj => hj, fun hh => absurd hh (by decide)⟩
  rw [if_neg e9] at h
  by_cases e10 : k = 10
  · rw [if_pos e10] at h; subst e10
    by_cases c : 0 < d.toNatClampNeg ∧ d.toNatClampNeg ≤ 8 ∧ d.toNatClampNeg ≤ P.2.1.length
    · rw [if_pos c] at h
      cases hn : nums (P.2.1.take d.toNatClampNeg) with
      | none => rw [hn] at h; cases h
      | some l => rw [hn] at h; cases h; exact ⟨fun j hj => hj, fun hh => absurd hh (by decide)⟩
    · rw [if_neg c] at h; cases h
  rw [if_neg e10] at h
  by_cases e11 : k = 11
  · rw [if_pos e11] at h; subst e11
    cases h
    exact ⟨fun j hj => hj, fun hh => absurd hh (by decide)⟩
  rw [if_neg e11] at h
  by_cases e12 : k = 12
  · rw [if_pos e12] at h; subst e12
    cases hs : P.2.1 with
    | nil => rw [hs] at h; cases h
    | cons v st =>
      rw [hs] at h
      cases h
      refine ⟨fun j hj => eup_some hj, fun _ => ?_⟩
      show (eup P.1 d.toNatClampNeg _ d.toNatClampNeg).isSome = true
      unfold eup; rw [if_pos rfl]; rfl
  rw [if_neg e12] at h
  by_cases e13 : k = 13
  · rw [if_pos e13] at h; subst e13
    cases hs : P.2.1 with
    | nil => rw [hs] at h; cases h
    | cons v st =>
      rw [hs] at h
      cases v with
      | inr l => cases h; exact absurd h0 no2
      | inl b =>
        cases hv : P.1 d.toNatClampNeg with
        | none => rw [hv] at h; cases h; exact absurd h0 no2
        | some a =>
          rw [hv] at h
          cases a with
          | inr l => cases h; exact absurd h0 no2
          | inl a =>
            cases h
            refine ⟨fun j hj => eup_some hj, fun _ => ?_⟩
            show (eup P.1 d.toNatClampNeg _ d.toNatClampNeg).isSome = true
            unfold eup; rw [if_pos rfl]; rfl
  rw [if_neg e13] at h
  by_cases e14 : k = 14
  · rw [if_pos e14] at h; subst e14
    cases hs : P.2.1 with
    | nil => rw [hs] at h; cases h
    | cons v st =>
      rw [hs] at h
      cases h
      exact ⟨fun j hj => eup_some hj, fun hh => absurd hh (by decide)⟩
  · rw [if_neg e14] at h; cases h
theorem qs_some {k d : Int32} {P : PM} {r : Int32 × PM} (h : qs p k d P = some r) (h0 : r.1 = 0) : (∀ j, (P.1 j).isSome = true → (r.2.1 j).isSome = true) ∧ ((k = 12 ∨ k = 13) → (r.2.1 d.toNatClampNeg).isSome = true) := by
  unfold qs at h
  split at h
  · rename_i e
    split at h
    · cases h; exact ⟨fun j hj => hj, fun hh => by rcases e with rfl | rfl | rfl <;> exact absurd hh (by decide)⟩
    · cases h
  split at h
  · rename_i e
    split at h
    · cases h; exact ⟨fun j hj => hj, fun hh => by rcases e with rfl | rfl <;> exact absurd hh (by decide)⟩
    · cases h
  · exact xs_some h h0
theorem yrc_some : ∀ (C : List ST) (P : PM) (r : Int32 × Int32 × PM), yr p C P = some r → r.1 = 0 → (∀ j, (P.1 j).isSome = true → (r.2.2.1 j).isSome = true) ∧ ∀ l, l < 26 → stc C l → (r.2.2.1 l).isSome = true := by
  intro C
  induction C with
  | nil =>
    intro P r h h0
    cases h
    exact ⟨fun j hj => hj, fun l _ ⟨a, ha, _⟩ => by cases ha⟩
  | cons a C ih =>
    intro P r h h0
    simp only [yr] at h
    cases hq : qs p a.1 a.2.1 P with
    | none => rw [hq] at h; cases h
    | some q =>
      rw [hq] at h
      dsimp only at h
      by_cases e : q.1 = 0
      · rw [if_pos e] at h
        obtain ⟨x1, x2⟩ := qs_some hq e
        obtain ⟨y1, y2⟩ := ih q.2 r h h0
        refine ⟨fun j hj => y1 j (x1 j hj), fun l hl ⟨b, hb, hk, hd⟩ => ?_⟩
        rcases List.mem_cons.mp hb with rfl | hb
        · have := x2 hk
          rw [hd, u_cl (by omega)] at this
          exact y1 l this
        · exact y2 l hl ⟨b, hb, hk, hd⟩
      · rw [if_neg e] at h
        cases h
        exact absurd h0 e
/-- told -/
theorem evl_told {e : Nat → Option VL} {d : DR} {r : Int32 × Int32 × PM} (hT : T.length ≤ 40) (hlang : lang = 0 ∨ lang = 1 ∨ lang = 2) (hF : rdF T lang = -1) (hr : evl T lang p e d = some r) (h0 : r.1 = 0) : ∀ j, j < 26 → bt ((rdA T lang).2.2.2.2.2.1 ||| (rdA T lang).2.2.2.2.2.2.1) j = true → (r.2.2.1 j).isSome = true := by
  intro j hj hb
  obtain ⟨hA, hE⟩ := rdA_ok hT hlang hF
  rcases hlang with rfl | rfl | rfl
  · unfold evl at hr
    rw [if_neg (by decide)] at hr
    rw [rdA_0] at hA hb hr
    rcases rss_st hT 40 (0, [], 0, 0, 0, 0, 0) (Nat.zero_le _) (Nat.le_refl _) hA j hj hb with h | h
    · have : bt ((0 : Int32) ||| 0) j = true := h
      rw [bt_or, bt_zero] at this; cases this
    · exact (yrc_some _ _ r hr h0).2 j hj h
  · unfold evl at hr
    rw [if_neg (by decide)] at hr
    rw [rdA_1] at hA hb hr
    obtain ⟨k1, k2, k3, k4, k5⟩ := rqu_E hA
    obtain ⟨a, b, k, n, p5, p6, x, hQ, e1, -⟩ := rqu_F hA
    rw [k3, k4, bt_or, bt_zero, Bool.or_false] at hb
    obtain ⟨a26, b26, c0, -⟩ := hQ
    have e97 : cat T 0 - 97 = Int32.ofNat a := by
      rw [c0]
      have := u_subL (a := 97 + a) (n := 97) (by omega)
      rw [this]; congr 1; omega
    rw [e97, bt_one (by omega)] at hb
    have : j = a := of_decide_eq_true hb
    subst this
    rw [e1] at hr
    refine (yrc_some _ _ r hr h0).2 j hj ⟨(12, Int32.ofNat j, 0), ?_, Or.inl rfl, rfl⟩
    unfold qcd
    exact List.mem_append_right _ (List.mem_cons_self ..)
  · unfold evl at hr
    rw [if_pos rfl] at hr
    rw [rdA_2] at hA hb hr
    obtain ⟨k1, k2, k3, k4, k5⟩ := rcl_E 40 0 (0, [], 0, 0, 0, 0, 0) hA (Or.inl rfl)
    rw [k3, bt_or] at hb
    have hb' : bt (rcl T 40 0 (0, [], 0, 0, 0, 0, 0)).2.2.2.2.2.1 j = true := by
      have z : bt (0 : Int32) j = false := bt_zero j
      simpa [z] using hb
    unfold rul at hr
    cases hf : (rcl T 40 0 (0, [], 0, 0, 0, 0, 0)).2.2.1.find? (fun a => unt e (rcl T 40 0 (0, [], 0, 0, 0, 0, 0)).2.2.2.2.2.2.2 a.2.1) with
    | some a => rw [hf] at hr; cases hr; exact absurd h0 (by show ¬ (1 : Int32) = 0; decide)
    | none =>
      rw [hf] at hr
      cases hr
      show (eru e _ _ j).isSome = true
      unfold eru
      rw [if_neg (by omega), if_pos hb']
      rfl
end S9w
