/-! ===== cell, edit ===== -/
section SB6
variable {h h' h1 g m m' m1 p : Hp} {n n' nw k B B' b c i : Nat} {T : List Int32} {lang us x y z : Int32} {s : Nat → Int32}
theorem weave_ok (h16 : n ≤ 16) (hn : h 0 10 = Int32.ofNat n) (hw : h 4 7 = Int32.ofNat nw) (h4 : nw ≤ 4) : ∃ g, p_129 h = some g ∧ JOK g n nw ∧ (∀ z, z ≠ 0 → ¬ (11 ≤ z ∧ z ≤ 16) → g z = h z) ∧ g 0 17 = 0 ∧ ∀ o, o ≠ 17 → g 0 o = h 0 o := by
  obtain ⟨g1, a, f, W⟩ := s_78 h16 hw h4
  have f' : ∀ z, ¬ (11 ≤ z ∧ z ≤ 16) → g1 z = h z := fun z hz => f z hz
  have J1 : JOK g1 n nw := ⟨h16, by rw [f' 0 (by omega)]; exact hn, by rw [f' 4 (by omega)]; exact hw, h4, W⟩
  have q : ∀ z, z ≠ 0 → w_up g1 0 17 0 z = g1 z := fun z hz => funext fun o => w_up_q hz
  refine ⟨w_up g1 0 17 0, ?_, JOK_fr J1 (w_up_b (by decide)) (by rw [q 4 (by decide)]) (q 5 (by decide)) (fun z a _ => q z (by omega)) (fun j _ => q _ (by omega)), fun z a d => by rw [q z a, f' z d], w_up_at, fun o ho => by rw [w_up_b ho, f' 0 (by omega)]⟩
  unfold p_129
  rw [hn, a]
  rfl
theorem TY_clear (Y : TY h m) (hi : i < 2) (e1 : g (48 + 2 * i) 1 = 0) (e2 : ∀ z, 48 ≤ z → z ≤ 51 → z ≠ 48 + 2 * i → z ≠ 48 + 2 * i + 1 → g z = h z) (e3 : p 1078 i = 0) (e4 : ∀ j, j ≠ i → p 1078 j = m 1078 j) (e5 : p 1077 = m 1077) : TY g p := by
  intro j hj
  by_cases e : j = i
  · subst e
    exact ⟨[], ⟨Nat.zero_le _, e1, fun a ha => absurd ha (Nat.not_lt_zero _), fun a ha => absurd ha (Nat.not_lt_zero _)⟩, e3, fun a ha => absurd ha (Nat.not_lt_zero _)⟩
  · obtain ⟨T, t1, t2, t3⟩ := Y j hj
    exact ⟨T, tx_fr2 t1 (e2 _ (by omega) (by omega) (by omega) (by omega)) (e2 _ (by omega) (by omega) (by omega) (by omega)), by rw [e4 j e]; exact t2, fun a ha => by rw [e5]; exact t3 a ha⟩
/-- a text is read by both -/
theorem read_both (Y : TY h m) (hi : i < 2) (hl : lang = 0 ∨ lang = 1 ∨ lang = 2) (em : m1 1077 = m 1077 ∧ m1 1078 = m 1078) : ∃ T h1 m2, tx h (48 + 2 * i) T ∧ m 1078 i = Int32.ofNat T.length ∧ tm m 1077 (40 * i) T ∧ p_35 h (48 + 2 * i) lang = some (rdF T lang, h1) ∧ cd h1 24 (rdA T lang).2 lang ∧ w_fr rdP h h1 ∧ p_158 m1 (Int32.ofNat i) lang = some (rdF T lang, m2) ∧ ffr m1 m2 := by
  obtain ⟨T, t1, t2, t3⟩ := Y i hi
  obtain ⟨r, r1, r2, r3, r4, r5⟩ := c_35 (h := h) (lang := lang) (q := 48 + 2 * i) (by omega) t1
  obtain ⟨m2, q1, q2⟩ := m_158 (m := m1) (lang := lang) hi t1.1 (by rw [em.2]; exact t2) (fun j hj => by rw [em.1]; exact t3 j hj) hl
  exact ⟨T, r.2, m2, t1, t2, t3, by rw [r1, ← r2], rs_cd r3 r5, r4, q1, q2⟩
/-- what was no text is gone -/
theorem gone_cp (H : CP h m n nw k B) (hi : i < 2) (f1 : w_fr rdP h h1) (f2 : ffr (w_up m 1076 79 0) m1) : CP (w_up h1 (48 + 2 * i) 1 0) (w_up m1 1078 i 0) n nw k B ∧ EF h m (w_up h1 (48 + 2 * i) 1 0) (w_up m1 1078 i 0) ∧ w_up m1 1078 i 0 1076 79 = 0 := by
  have gq : ∀ z, z ≠ 17 → ¬ (24 ≤ z ∧ z ≤ 27) → z ≠ 48 + 2 * i → w_up h1 (48 + 2 * i) 1 0 z = h z := fun z a d e => by
    funext o; rw [w_up_q e, f1 z (by unfold rdP; omega)]
  have pq : ∀ q, q ≠ 1076 → ¬ (1127 ≤ q ∧ q ≤ 1129) → q ≠ 1078 → w_up m1 1078 i 0 q = m q := fun q a d e => by
    funext o; rw [w_up_q e, f2.1 q (by unfold flP; omega), w_up_q a]
  have p76 : ∀ o, o ≠ 66 → o ≠ 67 → o ≠ 70 → o ≠ 79 → w_up m1 1078 i 0 1076 o = m 1076 o := fun o a d e f => by
    rw [w_up_q (by decide), f2.2 o a d e, w_up_b f]
  refine ⟨CP_bld H (fun z hz => gq z (by omega) (by omega) (by omega)) (fun q hq => pq q (by omega) (by omega) (by omega)) (by rw [gq 0 (by omega) (by omega) (by omega)]) (by rw [gq 4 (by omega) (by omega) (by omega)]) (p76 2 (by decide) (by decide) (by decide) (by decide)) (p76 48 (by decide) (by decide) (by decide) (by decide)) (SCL_fr H.2.2.2.2.1 ⟨by rw [gq 40 (by omega) (by omega) (by omega)], by rw [gq 40 (by omega) (by omega) (by omega)]⟩ (fun o _ => by rw [gq 0 (by omega) (by omega) (by omega)]) (fun o ho => p76 o (by omega) (by omega) (by omega) (by omega))) (RSB_fr H.2.2.2.2.2.1 H.2.1.1 (fun o _ => by rw [gq 0 (by omega) (by omega) (by omega)]) (fun c _ => gq _ (by omega) (by omega) (by omega)) (fun o ho => p76 o (by omega) (by omega) (by omega) (by omega)) (pq 1100 (by decide) (by decide) (by decide))) (WG_fr H.2.2.2.2.2.2.1 (by rw [gq 4 (by omega) (by omega) (by omega)]) (fun z hz => gq z (by omega) (by omega) (by omega)) (fun q hq => pq q (by omega) (by omega) (by omega))) (TY_clear H.2.2.2.2.2.2.2.1 hi w_up_at (fun z a d e f => gq z (by omega) (by omega) e) w_up_at (fun j hj => by rw [w_up_b hj, f2.1 1078 (by unfold flP; omega), w_up_q (by decide)]) (pq 1077 (by decide) (by decide) (by decide))) (fun w hw => by rw [gq 8 (by omega) (by omega) (by omega), pq 1115 (by decide) (by decide) (by decide)]; exact H.2.2.2.1.1 w hw) (pq 1123 (by decide) (by decide) (by decide)), ⟨fun z hz => gq z (by omega) (by omega) (by omega), fun q hq => pq q (by omega) (by omega) (by omega)⟩, ?_⟩
  rw [w_up_q (by decide), f2.2 79 (by decide) (by decide) (by decide), w_up_at]
/-- cell -/
theorem call_2 (H : CI b h m) (hb : b + 20 ≤ 1000000) : OUT b h m (p_99 h x y) (p_166 m x y) [(0, 1), (1, 2)] := by
  obtain ⟨n, nw, k, H0⟩ := H
  have hk := H0.1.1
  have H := CP_up H0 (B' := b + 20) ⟨by omega, hb⟩
  have h16 := H.2.1.1
  have h4 := H.2.1.2.2.2.1
  obtain ⟨hl1, hl2⟩ := lang_eq (x := y)
  by_cases e1 : v_121 x = 0
  · refine OUT_x H (id := 0) (e := 1) (v := 0) ?_ ?_ (List.mem_cons_self ..)
    · unfold p_99; rw [if_pos e1]
    · unfold p_166 q_166_13 q_166_23
      rw [hand_eq, if_pos e1, go_1 rfl]
      simp only [Option.bind_some, if_true]
  by_cases e2 : v_122 y = 0
  · refine OUT_x H (id := 0) (e := 1) (v := 0) ?_ ?_ (List.mem_cons_self ..)
    · unfold p_99; rw [if_neg e1, if_pos e2]
    · unfold p_166 q_166_13 q_166_23
      rw [hand_eq, if_neg e1, if_pos (hl1.mpr e2), go_1 rfl]
      simp only [Option.bind_some, if_true]
  have hn : h 0 10 = Int32.ofNat n := H.2.1.2.1
  have hmn : m 1076 2 = Int32.ofNat n := H.2.2.1.2.2.1
  have mdl0 : ∀ s0, p_166 m x y = q_166_23 m x y s0 1 → p_166 m x y = q_166_23 m x y s0 1 := fun _ h => h
  have mdl : p_166 m x y = q_166_23 m x y (if Int32.ofNat n < 16 then 1 else 0 : Int32) 1 := by
    unfold p_166 q_166_13
    rw [hand_eq, if_neg e1, if_neg (fun e => e2 (hl1.mp e)), hmn]
  by_cases e3 : n < 16
  · have hlt : Int32.ofNat n < 16 := (u_ltL (n := 16) (by omega) (by decide)).mpr e3
    rw [if_pos hlt] at mdl
    obtain ⟨i, hi, rfl⟩ := hand_nat e1
    have e48 : 2 * i + 48 = 48 + 2 * i := by omega
    obtain ⟨T, h1, m1, t1, t2, t3, r1, r2, r3, r4, r5⟩ := read_both (lang := y) (m1 := w_up m 1076 79 0) H.2.2.2.2.2.2.2.1 hi (hl2 e2) ⟨funext fun o => w_up_q (by decide), funext fun o => w_up_q (by decide)⟩
    have cls : p_99 h (Int32.ofNat i) y = (p_128 h1 (Int32.ofNat i) (64 * n + 52) (rdF T y)).bind fun vz9 => if vz9.1 = 0 then (some ((.inl (-1)), vz9.2)) else (w_let (w_up vz9.2 0 10 ((vz9.2 0 10) + 1)) fun hz11 => (p_129 hz11).bind fun vz12 => (p_130 vz12).bind fun vz13 => some ((.inl (Int32.ofNat n)), vz13)) := by
      unfold p_99
      rw [if_neg e1, if_neg e2, hn, if_pos hlt]
      simp (disch := omega) only [u_ix, u_cl, w_gd, e48]
      rw [r1]
      rfl
    have mdl2 : p_166 m (Int32.ofNat i) y = if rdF T y = (-1) then (w_let (w_up m1 1076 2 ((m1 1076 2) + 1)) fun hz8 => w_gd (w_ix (m1 1076 2) 16) <| w_let (w_up hz8 1081 ((m1 1076 2).toNatClampNeg) y) fun hz10 => (p_165 hz10 (Int32.ofNat i) (m1 1076 2)).bind fun vz11 => w_let (w_up vz11 1076 45 0) fun hz12 => q_166_57 hz12 (Int32.ofNat i) (m1 1076 2)) else (q_166_57 m1 (Int32.ofNat i) (-1)) := by
      rw [mdl]
      unfold q_166_23
      rw [go_0 no10 no10 no10]
      simp only [Option.bind_some, no10, if_false]
      rw [r4]
      rfl
    by_cases e4 : rdF T y = -1
    · rw [e4] at cls
      rw [if_pos e4] at mdl2
      have c16 : n < 16 := e3
      obtain ⟨h2, q1, q2, q3, q4, q5, q6, q7, q8⟩ := c_128y (h := h1) (i := i) (c := n) (T := T) (s := (rdA T y).2) (lang := y) hi (tx_fr2 t1 (r3 _ (by unfold rdP; omega)) (r3 _ (by unfold rdP; omega))) r2
      have h1q : ∀ z, z ≠ 17 → ¬ (24 ≤ z ∧ z ≤ 27) → h1 z = h z := fun z a d => r3 z (by unfold rdP; omega)
      have h2q : ∀ z, z ≠ 17 → ¬ (24 ≤ z ∧ z ≤ 27) → z ≠ 48 + 2 * i → ¬ (64 * n + 52 ≤ z ∧ z ≤ 64 * n + 58) → h2 z = h z := fun z a d e f => by rw [q8 z (by omega), h1q z a d]
      generalize hh3 : w_up h2 0 10 ((h2 0 10) + 1) = h3
      have h3q : ∀ z, z ≠ 0 → h3 z = h2 z := fun z a => by rw [← hh3]; funext o; rw [w_up_q a]
      have h30 : ∀ o, o ≠ 10 → h3 0 o = h 0 o := fun o a => by rw [← hh3, w_up_b a, h2q 0 (by omega) (by omega) (by omega) (by omega)]
      have h310 : h3 0 10 = Int32.ofNat (n + 1) := by rw [← hh3, w_up_at, h2q 0 (by omega) (by omega) (by omega) (by omega), hn, u_S]
      obtain ⟨g, w1, w2, w3, w4, w5⟩ := weave_ok (h := h3) (n := n + 1) (nw := nw) (by omega) h310 (by rw [h3q 4 (by decide), h2q 4 (by omega) (by omega) (by omega) (by omega)]; exact H.2.1.2.2.1) h4
      have gq : ∀ z, z ≠ 0 → z ≠ 17 → ¬ (11 ≤ z ∧ z ≤ 16) → ¬ (24 ≤ z ∧ z ≤ 27) → z ≠ 48 + 2 * i → ¬ (64 * n + 52 ≤ z ∧ z ≤ 64 * n + 58) → g z = h z := fun z a a2 d d2 e f => by rw [w3 z a d, h3q z a, h2q z a2 d2 e f]
      have gn : ∀ z, 64 * n + 52 ≤ z → z ≤ 64 * n + 58 → g z = h2 z := fun z a d => by rw [w3 z (by omega) (by omega), h3q z (by omega)]
      -- the model
      have m1q : ∀ q, q ≠ 1076 → ¬ (1127 ≤ q ∧ q ≤ 1129) → m1 q = m q := fun q a d => by
        rw [r5.1 q (by unfold flP; omega)]; exact funext fun o => w_up_q a
      have m176 : ∀ o, o ≠ 66 → o ≠ 67 → o ≠ 70 → o ≠ 79 → m1 1076 o = m 1076 o := fun o a d e f => by rw [r5.2 o a d e, w_up_b f]
      have m179 : m1 1076 79 = 0 := by rw [r5.2 79 (by decide) (by decide) (by decide), w_up_at]
      have m12 : m1 1076 2 = Int32.ofNat n := by rw [m176 2 (by decide) (by decide) (by decide) (by decide)]; exact hmn
      generalize hm3 : w_up (w_up m1 1076 2 (Int32.ofNat (n + 1))) 1081 n y = m3
      have m3q : ∀ q, q ≠ 1076 → ¬ (1127 ≤ q ∧ q ≤ 1129) → q ≠ 1081 → m3 q = m q := fun q a d e => by rw [← hm3, ← m1q q a d]; funext o; rw [w_up_q e, w_up_q a]
      have m376 : ∀ o, o ≠ 2 → m3 1076 o = m1 1076 o := fun o a => by rw [← hm3, w_up_q (by decide), w_up_b a]
      have m32 : m3 1076 2 = Int32.ofNat (n + 1) := by rw [← hm3, w_up_q (by decide), w_up_at]
      have m381 : m3 1081 n = y := by rw [← hm3, w_up_at]
      obtain ⟨m4, k1, k2, k3, k4, k5, k6, k7, k8⟩ := m_165 (m := m3) (i := i) (c := n) (T := T) (lang := y) hi c16 t1.1 (by rw [m3q 1078 (by decide) (by decide) (by decide)]; exact t2) (fun j hj => by rw [m3q 1077 (by decide) (by decide) (by decide)]; exact t3 j hj) m381 (hl2 e2) e4
      have k5' : ∀ q, q ≠ 1076 → q ≠ 1079 → q ≠ 1080 → ¬ (1083 ≤ q ∧ q ≤ 1086) → q ≠ 1127 → m4 q = m3 q := fun q a d e f f2 => k5 q (by unfold tkP; omega)
      generalize hp : w_up (w_up m4 1076 45 0) 1078 i 0 = p
      have pq : ∀ q, q ≠ 1076 → q ≠ 1078 → ¬ (1079 ≤ q ∧ q ≤ 1086) → ¬ (1127 ≤ q ∧ q ≤ 1129) → p q = m q := fun q a d e f => by
        rw [← m3q q a f (by omega), ← k5' q a (by omega) (by omega) (by omega) (by omega), ← hp]; funext o; rw [w_up_q d, w_up_q a]
      have p4 : ∀ q, q ≠ 1076 → q ≠ 1078 → p q = m4 q := fun q a d => by rw [← hp]; funext o; rw [w_up_q d, w_up_q a]
      have p76 : ∀ o, o ≠ 2 → o ≠ 45 → o ≠ 66 → o ≠ 67 → o ≠ 70 → o ≠ 79 → p 1076 o = m 1076 o := fun o a d e f f2 f3 => by
        rw [← hp, w_up_q (by decide), w_up_b d, k6 o e f, m376 o a, m176 o e f f2 f3]
      have p2 : p 1076 2 = Int32.ofNat (n + 1) := by rw [← hp, w_up_q (by decide), w_up_b (by decide), k6 2 (by decide) (by decide), m32]
      have p79 : p 1076 79 = 0 := by rw [← hp, w_up_q (by decide), w_up_b (by decide), k6 79 (by decide) (by decide), m376 79 (by decide), m179]
      have HC : CP g p (n + 1) nw k (b + 20) := by
        refine take_cp (h := h) (m := m) (c := n) (T := T) (lang := y) (B := b) H0 ⟨by omega, hb⟩ c16 (Or.inr ⟨rfl, rfl⟩) (fun hh => absurd hh (Nat.lt_irrefl _)) (hl2 e2) e4 w2 (gq 4 (by omega) (by omega) (by omega) (by omega) (by omega) (by omega)) (fun z a d => gq z (by omega) (by omega) (by omega) (by omega) (by omega) (by omega)) (fun o a d => by rw [w5 o (by omega), h30 o (by omega)]) w4 (gq 40 (by omega) (by omega) (by omega) (by omega) (by omega) (by omega)) (fun j hj hne z a d e => gq z (by omega) (by omega) (by omega) (by omega) (by omega) (by omega)) (fun z a d => gq z (by omega) (by omega) (by omega) (by omega) (by omega) (by omega)) (fun o ho h15 => by rw [gn _ (by omega) (by omega), q5 o h15, h1q _ (by omega) (by omega)]) (by rw [gn _ (by omega) (by omega)]; exact q4) (tx_fr2 q2 (gn _ (by omega) (by omega)) (gn _ (by omega) (by omega))) (cd_fr q3 (gn _ (by omega) (by omega)) (gn _ (by omega) (by omega)) (gn _ (by omega) (by omega)) (gn _ (by omega) (by omega))) (fun j hj hne => ⟨fun q hq => ?_, fun q o hq ho => ?_, fun q o hq ho => ?_, fun q o hq ho => ?_, fun o ho => ?_, fun kk a d => ⟨fun _ _ => ?_, ?_, fun _ _ => ?_, fun _ _ => ?_, fun _ _ => ?_⟩⟩) (fun q a d => pq q (by omega) (by omega) (by omega) (by omega)) ?_ ?_ ?_ ?_ p2 ?_ (fun o ho => p76 o (by omega) (by omega) (by omega) (by omega) (by omega) (by omega)) ?_ ?_ ?_
        · obtain ⟨z0, z3, z4, z5, z6⟩ := k7 j hne
          rw [p4 q (by omega) (by omega)]
          by_cases a1 : q = 1081
          · subst a1; rw [k5' 1081 (by decide) (by decide) (by decide) (by decide) (by decide), ← hm3, w_up_b hne, w_up_q (by decide), m1q 1081 (by decide) (by decide)]
          by_cases a2 : q = 1080
          · subst a2; rw [z0, m3q 1080 (by decide) (by decide) (by decide)]
          by_cases a3 : q = 1083
          · subst a3; rw [z3, m3q 1083 (by decide) (by decide) (by decide)]
          by_cases a4 : q = 1084
          · subst a4; rw [z4, m3q 1084 (by decide) (by decide) (by decide)]
          by_cases a5 : q = 1085
          · subst a5; rw [z5, m3q 1085 (by decide) (by decide) (by decide)]
          by_cases a6 : q = 1086
          · subst a6; rw [z6, m3q 1086 (by decide) (by decide) (by decide)]
          · rw [k5' q (by omega) (by omega) (by omega) (by omega) (by omega), m3q q (by omega) (by omega) (by omega)]
        · rw [p4 q (by omega) (by omega)]
          by_cases a1 : q = 1079
          · subst a1; rw [k8 _ (by omega), m3q 1079 (by decide) (by decide) (by decide)]
          · rw [k5' q (by omega) (by omega) (by omega) (by omega) (by omega), m3q q (by omega) (by omega) (by omega)]
        · rw [pq q (by omega) (by omega) (by omega) (by omega)]
        · rw [pq q (by omega) (by omega) (by omega) (by omega)]
        · rw [pq 1091 (by omega) (by omega) (by omega) (by omega)]
        · rw [pq 1101 (by omega) (by omega) (by omega) (by omega)]
        · rw [pq 1102 (by omega) (by omega) (by omega) (by omega)]
        · rw [pq 1103 (by omega) (by omega) (by omega) (by omega)]
        · rw [pq 1104 (by omega) (by omega) (by omega) (by omega)]
        · rw [pq 1105 (by omega) (by omega) (by omega) (by omega)]
        · rw [p4 1081 (by decide) (by decide), k5' 1081 (by decide) (by decide) (by decide) (by decide) (by decide)]; exact m381
        · exact ⟨k2.1, by rw [p4 1080 (by decide) (by decide)]; exact k2.2.1, fun j hj => by rw [p4 1079 (by decide) (by decide)]; exact k2.2.2 j hj⟩
        · exact ⟨by rw [p4 1083 (by decide) (by decide)]; exact k3.1, by rw [p4 1084 (by decide) (by decide)]; exact k3.2.1, by rw [p4 1085 (by decide) (by decide)]; exact k3.2.2⟩
        · rw [p4 1086 (by decide) (by decide)]; exact k4
        · rw [← hp, w_up_q (by decide), w_up_at]
        · rw [gn _ (by omega) (by omega), q5 10 (by decide), h1q _ (by omega) (by omega), p4 1082 (by decide) (by decide), k5' 1082 (by decide) (by decide) (by decide) (by decide) (by decide), m3q 1082 (by decide) (by decide) (by decide)]
          exact (H.2.2.2.2.2.2.2.2.1 n c16).2.2.1.1
        · rw [if_neg (Nat.lt_irrefl _), p4 1082 (by decide) (by decide), k5' 1082 (by decide) (by decide) (by decide) (by decide) (by decide), m3q 1082 (by decide) (by decide) (by decide)]
        · refine TY_clear H.2.2.2.2.2.2.2.1 hi ?_ (fun z a d e f => gq z (by omega) (by omega) (by omega) (by omega) e (by omega)) (by rw [← hp, w_up_at]) (fun j hj => ?_) ?_
          · rw [w3 _ (by omega) (by omega), h3q _ (by omega)]; exact q6
          · rw [← hp, w_up_b hj, w_up_q (by decide), k5' 1078 (by decide) (by decide) (by decide) (by decide) (by decide), m3q 1078 (by decide) (by decide) (by decide)]
          · rw [p4 1077 (by decide) (by decide), k5' 1077 (by decide) (by decide) (by decide) (by decide) (by decide), m3q 1077 (by decide) (by decide) (by decide)]
      obtain ⟨h5, m5, k5_, z1, z2, H5, z4, R5⟩ := at_once HC (by omega)
      have hne : ¬ Int32.ofNat n = -1 := m1_ne (by omega)
      refine ⟨.inl (Int32.ofNat n), h5, Int32.ofNat n, m5, ?_, ?_, ⟨n + 1, nw, k5_, H5⟩, EF_trans ⟨fun z hz => gq z (by omega) (by omega) (by omega) (by omega) (by omega) (by omega), fun q hq => pq q (by omega) (by omega) (by omega) (by omega)⟩ (EF_RN R5), Or.inl ⟨rfl, by rw [R5.2.2.1]; exact p79⟩⟩
      · rw [cls, q1]
        simp only [Option.bind_some, no10, if_false, w_let]
        rw [hh3, w1]
        simp only [Option.bind_some]
        rw [z1]
        rfl
      · rw [mdl2, m12]
        simp (disch := omega) only [u_ix, u_cl, w_gd, w_let, u_S]
        rw [hm3, k1]
        simp only [Option.bind_some]
        unfold q_166_57
        simp (disch := omega) only [u_ix, u_cl, w_gd, w_let]
        rw [hp, if_neg hne, z2]
        rfl
    · rw [c_128n hi e4] at cls
      rw [if_neg e4] at mdl2
      obtain ⟨G1, G2, G3⟩ := gone_cp H hi r3 r5
      refine ⟨.inl (-1), _, -1, _, cls, ?_, ⟨n, nw, k, G1⟩, G2, Or.inl ⟨rfl, G3⟩⟩
      rw [mdl2]
      unfold q_166_57
      simp (disch := omega) only [u_ix, u_cl, w_gd, w_let]
      rw [if_pos trivial]
  · have hlt : ¬ Int32.ofNat n < 16 := fun hh => e3 ((u_ltL (n := 16) (by omega) (by decide)).mp hh)
    rw [if_neg hlt] at mdl
    refine OUT_x H (id := 1) (e := 2) (v := 0) ?_ ?_ (List.mem_cons_of_mem _ (List.mem_singleton.mpr rfl))
    · unfold p_99
      rw [if_neg e1, if_neg e2, hn, if_neg hlt]
    · rw [mdl]
      unfold q_166_23
      rw [go_2 no10 rfl]
      simp only [Option.bind_some, if_true]
end SB6
