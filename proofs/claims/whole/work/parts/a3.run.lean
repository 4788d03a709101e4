/-! ===== a run keeps the two heaps coupled ===== -/
section SA3
variable {h h' m m' : Hp} {n nw k B c : Nat} {T : List Int32} {lang : Int32}
/-- the rows of another cell -/
theorem hrP_far {j z : Nat} (hj : j ≠ c) (a : 64 * j + 52 ≤ z) (b : z < 64 * j + 116) : ¬ hrP c z := by
  unfold hrP xP; omega
theorem hrP_low {z : Nat} (a : z < 28) (b : z ≠ 0) : ¬ hrP c z := by
  unfold hrP xP; omega
theorem hrP_own {z : Nat} (a : (64 * c + 53 ≤ z ∧ z ≤ 64 * c + 59) ∨ (64 * c + 62 ≤ z ∧ z ≤ 64 * c + 64) ∨ (64 * c + 69 ≤ z ∧ z ≤ 64 * c + 78)) : ¬ hrP c z := by
  unfold hrP xP; omega
theorem mrP_no {q : Nat} (a : (1077 ≤ q ∧ q ≤ 1086) ∨ (1106 ≤ q ∧ q ≤ 1126)) : ¬ mrP q := by
  unfold mrP evgP evfP; omega
theorem ran_sch (R : ran h m h' m' c k nw T lang) {j : Nat} (hj : j ≠ c) : sch j h h' := fun z a b _ => R.1.1 z (hrP_far hj a b)
theorem ran_scm (R : ran h m h' m' c k nw T lang) {j : Nat} (hj : j ≠ c) : scm j m m' := by
  obtain ⟨⟨-, f2, ⟨o1, o2, o3, o4, o5, o6, o7⟩, -⟩, -⟩ := R
  have fq : ∀ q, ((1077 ≤ q ∧ q ≤ 1086) ∨ (1106 ≤ q ∧ q ≤ 1126)) → m' q = m q := fun q hq => f2 q (mrP_no hq)
  refine ⟨fun q hq => ?_, fun q b hq hb => ?_, fun q b hq hb => ?_, fun q b hq hb => ?_, fun b hb => ?_, fun k a b => o7 k (by omega)⟩
  · by_cases e : q = 1100
    · subst e; exact o6 j hj
    by_cases e2 : q = 1087 ∨ q = 1088 ∨ q = 1089 ∨ q = 1090 ∨ q = 1092 ∨ q = 1096 ∨ q = 1098
    · exact o1 q j e2 hj
    · rw [fq q (by omega)]
  · by_cases e : q = 1095 ∨ q = 1097
    · exact o5 q _ e (by omega)
    · rw [fq q (by omega)]
  · by_cases e : q = 1093
    · subst e; exact o3 _ (by omega)
    · rw [fq q (by omega)]
  · by_cases e : q = 1094
    · subst e; exact o4 _ (by omega)
    · rw [fq q (by omega)]
  · exact o2 _ (by omega)
/-- what the model knows of the cell's needs is what the class knows -/
theorem lk_eq (J : JOK h n nw) (L : LK h m n nw) (hc : c < n) : m 1120 c = h 14 c ∧ m 1121 c = h 15 c :=
  ⟨bt_ext fun j hj => by rw [(L c hc j hj).1, (J.2.2.2.2.2.2.2.1 c hc).1 j hj], bt_ext fun j hj => by rw [(L c hc j hj).2, (J.2.2.2.2.2.2.2.1 c hc).2 j hj]⟩
/-- the widgets that a cell needs are there -/
theorem nd_w (J : JOK h n nw) (hc : c < n) {w : Nat} (hw : w < 4) (hb : bt (h 14 c) (16 + w) = true) : w < nw := by
  have h16 := J.1
  rw [(J.2.2.2.2.2.2.2.1 c hc).1 (16 + w) (by omega)] at hb
  unfold ndh at hb
  obtain ⟨y, hy, hb2⟩ := (anyb_iff 26).mp hb
  rw [Bool.and_eq_true] at hb2
  have hg := hb2.2
  unfold gvb at hg
  split at hg
  · rename_i l hl
    have := (lst_lt 16 hl).1
    have := of_decide_eq_true hg
    omega
  · rw [Bool.and_eq_true] at hg
    have hd := hg.1
    unfold dfh at hd
    simp only [Bool.or_eq_true, Bool.and_eq_true, decide_eq_true_eq] at hd
    rcases hd with hd | hd
    · omega
    · omega
theorem CP_ran (H : CP h m n nw k B) (L : LK h m n nw) (hc : c < n) (hla : m 1081 c = lang) (C : cel h m c T lang) (hB : k + 1 ≤ B) (hu : h' (64 * c + 52) 11 = 0 → ∀ x, x < 26 → bt (h (64 * c + 55) 7) x = true → ∃ j, gvr h n nw c x = some j) (R : ran h m h' m' c k nw T lang) : CP h' m' n nw (k + 1) B := by
  obtain ⟨⟨b1, b2⟩, J, W, RR, S, Q, G, Y, P, CC, V, V2, U⟩ := H
  have h16 := J.1
  have h4 := J.2.2.2.1
  have hsc : ∀ j, j ≠ c → sch j h h' := fun j hj => ran_sch R hj
  have hsm : ∀ j, j ≠ c → scm j m m' := fun j hj => ran_scm R hj
  obtain ⟨lk1, lk2⟩ := lk_eq J L hc
  obtain ⟨⟨f1, f2, ⟨o1, o2, o3, o4, o5, o6⟩, f3, f4, f5, f6⟩, ⟨g1, g2, g3, g4, g5, g6, g7, g8⟩, ⟨d1, d2, d3, d4, d5, d6, d7, d8⟩, O, V', ⟨pc, po, F, P'⟩, ⟨D, LL, dd1, dd2⟩⟩ := R
  have low : ∀ z, z < 28 → z ≠ 0 → h' z = h z := fun z a b => f1 z (hrP_low a b)
  have mq : ∀ q, ((1077 ≤ q ∧ q ≤ 1086) ∨ (1106 ≤ q ∧ q ≤ 1126)) → m' q = m q := fun q hq => f2 q (mrP_no hq)
  have e55 : ∀ j, j < 16 → h' (64 * j + 55) = h (64 * j + 55) := fun j hj => by
    by_cases e : j = c
    · subst e; exact f1 _ (hrP_own (by omega))
    · exact f1 _ (hrP_far e (by omega) (by omega))
  have m76 : ∀ b, mSl b → b ≠ 19 → b ≠ 20 → b ≠ 21 → b ≠ 29 → b ≠ 31 → b ≠ 45 → m' 1076 b = m 1076 b := fun b hb h1 h2 h3 h4 h5 h6 => by
    unfold mSl at hb
    exact f6 b h1 h2 h3 (by omega) h4 (by omega) h5 h6 (by omega) (by omega) (by omega) (by omega) (by omega) (by omega) (by omega) (by omega) (by omega)
  have la' : m' 1081 c = m 1081 c := by rw [mq 1081 (by omega)]
  refine ⟨⟨hB, b2⟩, JOK_fr J (f3 10 (by decide) (by decide) (by decide) (by decide)) (by rw [low 4 (by decide) (by decide)]) (low 5 (by decide) (by decide)) (fun z a b => low z (by omega) (by omega)) e55, MW_eq W (low 5 (by decide) (by decide)) e55 (m76 2 (by unfold mSl; omega) (by decide) (by decide) (by decide) (by decide) (by decide) (by decide)) (m76 48 (by unfold mSl; omega) (by decide) (by decide) (by decide) (by decide) (by decide) (by decide)) (fun q hq => mq q (by omega)), ?_, ?_, ?_, WG_fr G (by rw [low 4 (by decide) (by decide)]) (fun z hz => low z (by omega) (by omega)) (fun q hq => mq q (by omega)), TY_fr Y (fun z a b => f1 z (by unfold hrP xP; omega)) (fun q hq => mq q (by omega)), fun j hj => ?_, fun j hj => ?_, V', fun j x hj hx => ?_, fun j hj => ?_⟩
  · -- runs
    obtain ⟨r1, r2, r3⟩ := RR
    refine ⟨fun w hw => by rw [low 8 (by decide) (by decide), mq 1115 (by omega)]; exact r1 w hw, fun j hj => ?_, fun i j hi hj hne => ?_⟩
    · by_cases e : j = c
      · subst e
        have p1 : (0 : Int32) < Int32.ofNat (k + 1) := (u_Llt (n := 0) (a := k + 1) (by omega) (by decide)).mpr (Nat.succ_pos k)
        have p0 : (0 : Int32) ≤ Int32.ofNat (k + 1) := (u_Lle (n := 0) (a := k + 1) (by omega) (by decide)).mpr (Nat.zero_le _)
        have n15 : ¬ h' (64 * j + 52) 15 = 0 := by rw [d1]; decide
        refine ⟨⟨fun _ => ⟨?_, ?_⟩, fun _ => n15⟩, d2.trans d4.symm, by rw [d4]; exact p0, fun _ => ⟨by rw [d4]; exact p1, ?_, fun w hw _ => ?_, ?_⟩⟩
        · rcases d8 with ⟨_, h⟩ | ⟨_, h⟩ <;> rw [h] <;> decide
        · rw [d5, mq 1082 (by omega)]
        · rw [d3, d6, lk1]
        · rw [(d7 w hw).1, (d7 w hw).2]; exact r1 w hw
        · rcases d8 with ⟨h1, h2⟩ | ⟨h1, h2⟩
          · exact ⟨fun _ => h2, fun _ => h1⟩
          · exact ⟨fun h => absurd h h1, fun h => by rw [h2] at h; exact absurd h (by decide)⟩
      · have e52 : h' (64 * j + 52) = h (64 * j + 52) := hsc j e _ (by omega) (by omega) (by omega)
        have e79 : h' (64 * j + 79) = h (64 * j + 79) := hsc j e _ (by omega) (by omega) (by omega)
        have m1 := (hsm j e).1
        obtain ⟨q1, q2, q3, q4⟩ := r2 j hj
        rw [e52, e79, m1 1087 (by omega), m1 1089 (by omega), m1 1082 (by omega), m1 1088 (by omega), m1 1090 (by omega)]
        refine ⟨q1, q2, q3, fun hh => ?_⟩
        obtain ⟨t1, t2, t3, t4⟩ := q4 hh
        exact ⟨t1, t2, fun w hw hb => by rw [(hsm j e).2.2.2.2.1 w (by omega)]; exact t3 w hw hb, t4⟩
    · have old : ∀ j, j < n → j ≠ c → ∃ s, s ≤ k ∧ m' 1088 j = Int32.ofNat s := fun j hj e => by
        obtain ⟨s, s1, s2⟩ := (P j (by omega)).2.2.2.2.1
        exact ⟨s, s1, by rw [(hsm j e).1 1088 (by omega)]; exact s2⟩
      by_cases ei : i = c
      · subst ei
        obtain ⟨s, s1, s2⟩ := old j hj (fun e => hne e.symm)
        rw [d4, s2, u_inj (by omega) (by omega)]
        intro hh; omega
      · by_cases ej : j = c
        · subst ej
          obtain ⟨s, s1, s2⟩ := old i hi ei
          rw [d4, s2, u_inj (by omega) (by omega)]
          intro hh; omega
        · rw [(hsm i ei).1 1088 (by omega), (hsm j ej).1 1088 (by omega)]
          exact r3 i j hi hj hne
  · -- chance, time, counts, mode
    obtain ⟨s1, s2, s3, s4, s5, s6, s7, s8⟩ := S
    exact ⟨g1, by rw [f5, m76 32 (by unfold mSl; omega) (by decide) (by decide) (by decide) (by decide) (by decide) (by decide)]; exact s2, g2, g3 s4, g4 s5, g5, g6, by rw [f3 11 (by decide) (by decide) (by decide) (by decide), m76 22 (by unfold mSl; omega) (by decide) (by decide) (by decide) (by decide) (by decide) (by decide)]; exact s8⟩
  · -- it can't be restored
    obtain ⟨q1, q2, q3, q4, q5⟩ := Q
    exact ⟨g7.trans g8.symm, Or.inl g7, by rw [f3 15 (by decide) (by decide) (by decide) (by decide), m76 46 (by unfold mSl; omega) (by decide) (by decide) (by decide) (by decide) (by decide) (by decide)]; exact q3, by rw [f3 16 (by decide) (by decide) (by decide) (by decide), m76 47 (by unfold mSl; omega) (by decide) (by decide) (by decide) (by decide) (by decide) (by decide)]; exact q4, fun hh => absurd g7 hh⟩
  · -- places
    by_cases e : j = c
    · subst e
      obtain ⟨-, -, ⟨x1, e, r, x2, x3, x4, x5⟩, ⟨y1, y2, y3, y4⟩, -, -⟩ := P j hj
      refine ⟨⟨pc, po, F, by rw [la', hla]; exact P', fun hh => absurd hh (by omega)⟩, ⟨D, LL, dd1, dd2⟩, ⟨?_, e, e, x2, Nat.le_refl _, ?_, ?_⟩, ⟨?_, ?_, fun hn => absurd hn (by omega), fun hn => ?_⟩, ⟨k + 1, Nat.le_refl _, d4⟩, fun hn => absurd hn (by omega)⟩
      · rw [f4 10 (by omega), mq 1082 (by omega)]; exact x1
      · rw [mq 1082 (by omega)]; exact x4
      · refine ⟨by rw [d5]; exact x4, fun w hw hb => ?_⟩
        rw [d6, lk1] at hb
        rw [m76 48 (by unfold mSl; omega) (by decide) (by decide) (by decide) (by decide) (by decide) (by decide), W.2.2.2.1]
        exact (u_lt (by omega) (by omega)).mpr (nd_w J hc hw hb)
      · rw [f4 16 (by omega), mq 1106 (by omega)]; exact y1
      · rw [mq 1106 (by omega)]; exact y2
      · rw [mq 1106 (by omega)] at hn
        obtain ⟨E, K⟩ := y4 hn
        rw [la']
        exact ⟨E, KE_fr K (fun z a b => f1 z (hrP_own (by omega))) (fun b hb => by rw [mq 1107 (by omega)]) (by rw [mq 1108 (by omega)]) (fun b hb => by rw [mq 1109 (by omega)]) (fun b hb => by rw [mq 1110 (by omega)]) (fun b hb => by rw [mq 1111 (by omega)])⟩
    · exact PL_fr (P j hj) (Nat.le_succ _) (Nat.le_refl _) (hsc j e) (hsm j e) (m76 48 (by unfold mSl; omega) (by decide) (by decide) (by decide) (by decide) (by decide) (by decide))
  · -- texts
    by_cases e : j = c
    · subst e
      unfold CT
      rw [la', hla]
      exact ⟨T, cel_rd C (fun z a b => f1 z (hrP_own (by omega))) (f4 10 (by omega)) (fun q hq => by
        by_cases e : q ≤ 1086
        · exact mq q (by omega)
        · omega), fun _ => O⟩
    · exact CT_fr (CC j hj) (hsc j e) (hsm j e)
  · obtain ⟨v, hv⟩ := V2 j x hj hx
    exact ⟨v, mv_fr hv (fun b _ _ => by rw [mq 1123 (by omega)])⟩
  · -- what is used
    intro a1 a2 x hx hux
    rw [e55 j (by omega)] at hux
    by_cases e : j = c
    · subst e
      obtain ⟨i, hi⟩ := hu a2 x hx hux
      have hg := (lst_lt 20 hi).2
      have bit : i < 32 → bt (h' (64 * j + 52) 13) i = true := fun hi32 => by
        rw [d3, (J.2.2.2.2.2.2.2.1 j hc).1 i hi32]
        unfold ndh
        exact (anyb_iff 26).mpr ⟨x, hx, by rw [hux, hg]; rfl⟩
      unfold gvb at hg
      split at hg
      · rename_i l hl
        have hil : i = l := of_decide_eq_true hg
        subst hil
        have h2 := (lst_lt 16 hl).2
        have h3 := (lst_lt 16 hl).1
        simp only [Bool.and_eq_true, Bool.or_eq_true, Bool.not_eq_true', decide_eq_true_eq] at h2
        obtain ⟨h2, h4'⟩ := h2
        have hc0 := h2
        unfold chh at h2
        simp only [Bool.and_eq_true, decide_eq_true_eq] at h2
        refine Or.inr ⟨i, h2.1, fun e => ?_, bit (by omega), Or.inr (Or.inr (Or.inr ⟨by rw [e55 i (by omega)]; exact h2.2, ?_⟩))⟩
        · subst e
          rcases h4' with h | h
          · rw [hc0] at h; cases h
          · omega
        · rw [e55 j (by omega)]
          rcases h4' with h | h
          · refine Or.inl (fun hb => ?_)
            unfold chh at h
            rw [decide_eq_true hc, Bool.true_and] at h
            rw [h] at hb; cases hb
          · exact Or.inr h
      · rw [Bool.and_eq_true, decide_eq_true_eq] at hg
        have hd := hg.1
        unfold dfh at hd
        simp only [Bool.or_eq_true, Bool.and_eq_true, decide_eq_true_eq] at hd
        rcases hd with hd | hd
        · exact Or.inr ⟨i, hd.1, hg.2, bit (by omega), Or.inr (Or.inr (Or.inl (by rw [e55 i (by omega)]; exact hd.2)))⟩
        · exact Or.inl ⟨i - 16, by omega, by rw [low 5 (by decide) (by decide)]; exact hd.2.2⟩
    · have e52 : h' (64 * j + 52) = h (64 * j + 52) := hsc j e _ (by omega) (by omega) (by omega)
      rw [e52] at a1 a2
      rcases U j hj a1 a2 x hx hux with ⟨w, w1, w2⟩ | ⟨i, i1, i2, i3, i4⟩
      · exact Or.inl ⟨w, w1, by rw [low 5 (by decide) (by decide)]; exact w2⟩
      · refine Or.inr ⟨i, i1, i2, by rw [e52]; exact i3, ?_⟩
        by_cases ei : i = c
        · subst ei
          refine Or.inr (Or.inl ?_)
          obtain ⟨s, s1, s2⟩ := (P j (by omega)).2.2.2.2.1
          rw [e52, (RR.2.1 j hj).2.1, s2, d2, u_lt (by omega) (by omega)]
          omega
        · have e52i : h' (64 * i + 52) = h (64 * i + 52) := hsc i ei _ (by omega) (by omega) (by omega)
          rw [e52i, e52, e55 i (by omega), e55 j (by omega)]; exact i4
end SA3
