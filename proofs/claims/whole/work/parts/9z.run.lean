/-! ===== the model runs a cell anew ===== -/
section S9z
variable {h h' m m' g : Hp} {T D L : List Int32} {c k n nw pc po : Nat} {lang us : Int32} {e : Nat → Option VL} {F : Nat → KEn} {V : Nat → Nat → Option VL}
/-- up to where the kept runs are looked at -/
theorem m_223a {how : Int32} (hhow : how = 0 ∨ how = 1) (hc : c < 16) (h4 : nw ≤ 4) (h48 : m 1076 48 = Int32.ofNat nw) (C : cel h m c T lang) (hX : FHx m c (rdA T lang).2.2.2.2.2.2.2 e) (he26 : e 26 = none) (hM : dr1 m c D L) (hv : vld m 1093) (hk : m 1076 19 = Int32.ofNat k) : ∃ r, evl T lang (false, tld how D T L, m 1076 32) e (0, m 1076 31, []) = some r ∧ ∃ m', p_223 m (Int32.ofNat c) how = (if r.1 = 0 then p_222 m' (Int32.ofNat c) else some m') ∧ w_fr (fun q => mrP q ∧ ¬ (1100 ≤ q ∧ q ≤ 1105)) m m' ∧ oth c m m' ∧ (∀ b, b ≠ 19 → b ≠ 20 → b ≠ 28 → b ≠ 29 → b ≠ 30 → b ≠ 31 → b ≠ 45 → b ≠ 66 → b ≠ 67 → b ≠ 70 → b ≠ 72 → b ≠ 74 → b ≠ 75 → b ≠ 76 → b ≠ 77 → b ≠ 80 → m' 1076 b = m 1076 b) ∧ m' 1076 29 = 0 ∧ m' 1076 31 = r.2.2.2.2.2.1 ∧ m' 1076 20 = m 1076 20 + 1 ∧ m' 1076 19 = Int32.ofNat (k + 1) ∧ m' 1076 45 = 0 ∧ m' 1088 c = Int32.ofNat (k + 1) ∧ m' 1089 c = m 1082 c ∧ m' 1090 c = m 1120 c ∧ (∀ w, w < nw → m' 1091 (4 * c + w) = m 1115 w) ∧ m' 1087 c = (if r.1 = 0 then 1 else 2) ∧ m' 1092 c = (if r.1 = 0 then 0 else 100 * r.1 + r.2.1) ∧ vld m' 1093 ∧ (r.1 = 0 → ∀ x, x < 26 → mv m' 1093 (234 * c + 9 * x) (gvs (rdA T lang).2.2.2.2.2.1 (rdA T lang).2.2.2.2.2.2.1 r.2.2.1 x)) ∧ (r.1 = 0 → mv m' 1094 (9 * c) (r.2.2.1 26)) ∧ dr1 m' c T r.2.2.2.2.2.2 := by
  obtain ⟨c1, c2, c3, c4, c5, c6, c7, c8, c9⟩ := C
  have hn2 : ¬ how = 2 := by rcases hhow with rfl | rfl <;> decide
  obtain ⟨fe, hF, hfe⟩ := hX m how hn2 rfl rfl rfl rfl rfl rfl rfl (fun _ _ => rfl) hv
  obtain ⟨r, hr, m1, p1, fr, b76, z29, z30, z31, ⟨hl1, hl2⟩, hrec, h1095, h1093, h1094, hv1, hres, herr⟩ := m_216 (T := T) (lang := lang) (p := (false, tld how D T L, m 1076 32)) (e := e) (fe := fe) (D := D) (L := L) (q3 := 1093) (q4 := 1094) (c := c) (how := how) (Or.inl ⟨rfl, rfl⟩) hc c1 (by rcases hhow with h | h; exact Or.inl h; exact Or.inr (Or.inl h)) c2 c5 c6 c7 hF hM ⟨fun h => absurd h hn2, fun h => by cases h⟩ rfl rfl hfe he26
  refine ⟨r, hr, ?_⟩
  have hT := c3.1
  -- the rows that the run leaves
  have m1q : ∀ q, ¬ mrP q → m1 q = m q := fun q hq => fr q (fun hh => hq (by
    unfold mevP at hh
    rcases hh with hh | hh | hh | hh | hh
    · exact Or.inl hh
    · exact Or.inr (Or.inl hh)
    · exact Or.inr (Or.inr (Or.inl hh))
    · exact Or.inr (Or.inr (Or.inr (Or.inl hh)))
    · exact Or.inr (Or.inr (Or.inr (Or.inr (Or.inl (by omega)))))))
  have m1r : ∀ q, (1087 ≤ q ∧ q ≤ 1092) ∨ (1096 ≤ q ∧ q ≤ 1098) ∨ (1100 ≤ q ∧ q ≤ 1105) → m1 q = m q := fun q hq => fr q (fun hh => by unfold mevP evgP evfP at hh; omega)
  have l1097 : w_len 1097 = 640 := by decide +kernel
  generalize hg1 : w_up m1 1096 c (m1 1076 30) = g1
  have g1q : ∀ q, q ≠ 1096 → g1 q = m1 q := fun q hq => by rw [← hg1]; exact funext fun b => w_up_q hq
  generalize hg2 : w_up g1 1098 c (Int32.ofNat T.length) = g2
  have g2q : ∀ q, q ≠ 1096 → q ≠ 1098 → g2 q = m1 q := fun q h1 h2 => by rw [← hg2, ← g1q q h1]; exact funext fun b => w_up_q h2
  have n79 : m1 1079 = m 1079 := m1q _ (by unfold mrP evgP evfP; omega)
  have n80 : m1 1080 = m 1080 := m1q _ (by unfold mrP evgP evfP; omega)
  have T2 : mt g2 c T := ⟨hT, by rw [g2q 1080 (by decide) (by decide), n80]; exact c5.2.1, fun j hj => by rw [g2q 1079 (by decide) (by decide), n79]; exact c5.2.2 j hj⟩
  have p215 := s_215 (m := g2) (r := 1097) (o := 40 * c) hc T2 (by rw [l1097]; omega) (by rw [l1097]; decide) (by decide) (by decide)
  generalize hg3 : w_fi g2 1097 (40 * c) T.length (fun i => g2 1079 (40 * c + i)) = g3 at p215
  have g3q : ∀ q, q ≠ 1096 → q ≠ 1098 → q ≠ 1097 → g3 q = m1 q := fun q h1 h2 h3 => by rw [← hg3, ← g2q q h1 h2]; exact funext fun b => w_fi_q h3
  generalize hs0 : (if ofB (decide (r.1 = 0)) = 0 then ((100 * (g3 1076 75)) + (g3 1076 76)) else 0 : Int32) = s0
  have hs0' : s0 = if r.1 = 0 then 0 else 100 * r.1 + r.2.1 := by
    rw [← hs0]
    by_cases e0 : r.1 = 0
    · rw [decide_eq_true e0, if_neg (by decide), if_pos e0]
    · rw [decide_eq_false e0, if_pos (by rfl), if_neg e0, g3q 1076 (by decide) (by decide) (by decide), (herr e0).1, (herr e0).2]
  generalize hg5 : w_up (w_up g3 1092 c s0) 1076 20 (m 1076 20 + 1) = g5
  have g5q : ∀ q, q ≠ 1096 → q ≠ 1098 → q ≠ 1097 → q ≠ 1092 → q ≠ 1076 → g5 q = m1 q := fun q h1 h2 h3 h4 h5 => by rw [← hg5, ← g3q q h1 h2 h3]; exact funext fun b => by rw [w_up_q h5, w_up_q h4]
  have g5b : ∀ b, b ≠ 20 → g5 1076 b = m1 1076 b := fun b hb => by rw [← hg5, w_up_b hb, w_up_q (by decide), g3q 1076 (by decide) (by decide) (by decide)]
  have g520 : g5 1076 20 = m 1076 20 + 1 := by rw [← hg5]; exact w_up_at
  obtain ⟨m2, p2, k1, k2, k3, k4, k5, k6, k7, k8, k9, k10, k11⟩ := m_217 (m := g5) (c := c) (k := k) (nw := nw) (x2 := if ofB (decide (r.1 = 0)) = 0 then 2 else 1) hc h4 (by rw [g5b 48 (by decide), b76 48 (by decide) (by decide) (by decide) (by decide) (by decide) (by decide) (by decide) (by decide) (by decide) (by decide) (by decide) (by decide) (by decide), h48]) (by rw [g5b 19 (by decide), b76 19 (by decide) (by decide) (by decide) (by decide) (by decide) (by decide) (by decide) (by decide) (by decide) (by decide) (by decide) (by decide) (by decide), hk])
  have m2q : ∀ q, q ≠ 1076 → q ≠ 1087 → q ≠ 1088 → q ≠ 1089 → q ≠ 1090 → q ≠ 1091 → q ≠ 1092 → q ≠ 1096 → q ≠ 1097 → q ≠ 1098 → m2 q = m1 q := fun q h1 h2 h3 h4 h5 h6 h7 h8 h9 h10 => by rw [k8 q (by omega), g5q q h8 h10 h9 h7 h1]
  have n82 : m1 1082 = m 1082 := m1q _ (by unfold mrP evgP evfP; omega)
  have n20 : m1 1120 = m 1120 := m1q _ (by unfold mrP evgP evfP; omega)
  have n15 : m1 1115 = m 1115 := m1q _ (by unfold mrP evgP evfP; omega)
  have m2_1093 : m2 1093 = m1 1093 := m2q _ (by decide) (by decide) (by decide) (by decide) (by decide) (by decide) (by decide) (by decide) (by decide) (by decide)
  have m2_1094 : m2 1094 = m1 1094 := m2q _ (by decide) (by decide) (by decide) (by decide) (by decide) (by decide) (by decide) (by decide) (by decide) (by decide)
  have m2_1095 : m2 1095 = m1 1095 := m2q _ (by decide) (by decide) (by decide) (by decide) (by decide) (by decide) (by decide) (by decide) (by decide) (by decide)
  have m2_1096 : m2 1096 = g1 1096 := by
    rw [k8 1096 (by decide), ← hg5]
    funext b
    rw [w_up_q (by decide), w_up_q (by decide), ← hg3, w_fi_q (by decide), ← hg2, w_up_q (by decide)]
  have m2_1098 : m2 1098 = g2 1098 := by
    rw [k8 1098 (by decide), ← hg5]
    funext b
    rw [w_up_q (by decide), w_up_q (by decide), ← hg3, w_fi_q (by decide)]
  have m2_1097 : m2 1097 = g3 1097 := by
    rw [k8 1097 (by decide), ← hg5]
    funext b
    rw [w_up_q (by decide), w_up_q (by decide)]
  have m2_1092 : ∀ b, m2 1092 b = w_up g3 1092 c s0 1092 b := by
    intro b
    rw [k8 1092 (by decide), ← hg5, w_up_q (by decide)]
  refine ⟨m2, ?_, fun q hq => ?_, ⟨fun q b hq hb => ?_, fun b hb => ?_, fun b hb => ?_, fun b hb => ?_, fun q b hq hb => ?_, ⟨fun b hb => ?_, fun kk hkk => ⟨fun b hb => ?_, ?_, fun b hb => ?_, fun b hb => ?_, fun b hb => ?_⟩⟩⟩, fun b n1 n2 n3 n4 n5 n6 n7 n8 n9 n10 n11 n12 n13 n14 n15 n16 => ?_, ?_, ?_, ?_, k1, k2, k3, ?_, ?_, fun w hw => ?_, ?_, ?_, fun j x hj hx => ?_, fun e0 x hx => ?_, fun e0 => ?_, ⟨hT, fun j hj => ?_, ?_, ?_, by omega, fun j hj => ?_⟩⟩
  · unfold p_223
    rw [p1]
    simp only [Option.bind_some]
    rw [u_ix hc (by decide), u_cl (by omega)]
    simp only [w_gd, w_let]
    rw [hg1, show g1 1080 c = Int32.ofNat T.length by rw [g1q 1080 (by decide), n80]; exact c5.2.1, hg2, show (40 : Int32) * Int32.ofNat c = Int32.ofNat (40 * c) by rw [show (40 : Int32) = Int32.ofNat 40 from rfl, u_mul], p215]
    simp only [Option.bind_some]
    rw [hs0]
    unfold q_223_45
    rw [u_ix hc (by decide), u_cl (by omega)]
    simp only [w_gd, w_let]
    rw [show (w_up g3 1092 c s0) 1076 20 = m 1076 20 by rw [w_up_q (by decide), g3q 1076 (by decide) (by decide) (by decide), b76 20 (by decide) (by decide) (by decide) (by decide) (by decide) (by decide) (by decide) (by decide) (by decide) (by decide) (by decide) (by decide) (by decide)], hg5]
    unfold q_223_59
    rw [p2]
    simp only [Option.bind_some]
    by_cases e0 : r.1 = 0
    · rw [decide_eq_true e0, if_neg (by decide), if_pos e0]
      cases p_222 m2 (Int32.ofNat c) <;> rfl
    · rw [decide_eq_false e0, if_pos (by rfl), if_neg e0]
  · by_cases hm : mrP q
    · have hq3 : 1100 ≤ q ∧ q ≤ 1105 := by
        by_cases hh : 1100 ≤ q ∧ q ≤ 1105
        · exact hh
        · exact absurd ⟨hm, hh⟩ hq
      rw [m2q q (by omega) (by omega) (by omega) (by omega) (by omega) (by omega) (by omega) (by omega) (by omega) (by omega), m1r q (Or.inr (Or.inr hq3))]
    · have : ¬ ((1087 ≤ q ∧ q ≤ 1093) ∨ (1096 ≤ q ∧ q ≤ 1098) ∨ q = 1076) := fun hh => hm (by unfold mrP; omega)
      rw [m2q q (by omega) (by omega) (by omega) (by omega) (by omega) (by omega) (by omega) (by omega) (by omega) (by omega), m1q q hm]
  · rcases hq with rfl | rfl | rfl | rfl | rfl | rfl | rfl
    · rw [k10 1087 b (by omega) hb, g5q 1087 (by decide) (by decide) (by decide) (by decide) (by decide), m1r 1087 (by omega)]
    · rw [k10 1088 b (by omega) hb, g5q 1088 (by decide) (by decide) (by decide) (by decide) (by decide), m1r 1088 (by omega)]
    · rw [k10 1089 b (by omega) hb, g5q 1089 (by decide) (by decide) (by decide) (by decide) (by decide), m1r 1089 (by omega)]
    · rw [k10 1090 b (by omega) hb, g5q 1090 (by decide) (by decide) (by decide) (by decide) (by decide), m1r 1090 (by omega)]
    · rw [m2_1092, w_up_b hb, g3q 1092 (by decide) (by decide) (by decide), m1r 1092 (by omega)]
    · rw [m2_1096, ← hg1, w_up_b hb, m1r 1096 (by omega)]
    · rw [m2_1098, ← hg2, w_up_b hb, g1q 1098 (by decide), m1r 1098 (by omega)]
  · rw [k11 b hb, g5q 1091 (by decide) (by decide) (by decide) (by decide) (by decide), m1r 1091 (by omega)]
  · rw [m2_1093]; exact h1093 b hb
  · rw [m2_1094]; exact h1094 b hb
  · rcases hq with rfl | rfl
    · rw [m2_1095]; exact h1095 b (by omega)
    · rw [m2_1097, ← hg3, w_fi_b (by omega), g2q 1097 (by decide) (by decide), m1r 1097 (by omega)]
  · rw [m2q 1100 (by decide) (by decide) (by decide) (by decide) (by decide) (by decide) (by decide) (by decide) (by decide) (by decide), m1r 1100 (by omega)]
  · rw [m2q 1101 (by decide) (by decide) (by decide) (by decide) (by decide) (by decide) (by decide) (by decide) (by decide) (by decide), m1r 1101 (by omega)]
  · rw [m2q 1102 (by decide) (by decide) (by decide) (by decide) (by decide) (by decide) (by decide) (by decide) (by decide) (by decide), m1r 1102 (by omega)]
  · rw [m2q 1103 (by decide) (by decide) (by decide) (by decide) (by decide) (by decide) (by decide) (by decide) (by decide) (by decide), m1r 1103 (by omega)]
  · rw [m2q 1104 (by decide) (by decide) (by decide) (by decide) (by decide) (by decide) (by decide) (by decide) (by decide) (by decide), m1r 1104 (by omega)]
  · rw [m2q 1105 (by decide) (by decide) (by decide) (by decide) (by decide) (by decide) (by decide) (by decide) (by decide) (by decide), m1r 1105 (by omega)]
  · rw [k9 b n1 n7, g5b b n2, b76 b n3 n4 n5 n6 n8 n9 n10 n11 n12 n13 n14 n15 n16]
  · rw [k9 29 (by decide) (by decide), g5b 29 (by decide)]; exact z29
  · rw [k9 31 (by decide) (by decide), g5b 31 (by decide)]; exact z31
  · rw [k9 20 (by decide) (by decide)]; exact g520
  · rw [k5, g5q 1082 (by decide) (by decide) (by decide) (by decide) (by decide), n82]
  · rw [k6, g5q 1120 (by decide) (by decide) (by decide) (by decide) (by decide), n20]
  · rw [k7 w hw, g5q 1115 (by decide) (by decide) (by decide) (by decide) (by decide), n15]
  · rw [k4]
    by_cases e0 : r.1 = 0
    · rw [decide_eq_true e0, if_neg (by decide), if_pos e0]
    · rw [decide_eq_false e0, if_pos (by rfl), if_neg e0]
  · rw [m2_1092, w_up_at, hs0']
  · by_cases ej : j = c
    · subst ej
      exact ⟨_, mv_fr (hv1 x hx) (fun b _ _ => by rw [m2_1093])⟩
    · obtain ⟨v, hv⟩ := hv j x hj hx
      exact ⟨v, mv_fr hv (fun b h1 h2 => by rw [m2_1093]; exact h1093 b (by omega))⟩
  · have := hv1 x hx
    rw [if_pos e0] at this
    exact mv_fr this (fun b _ _ => by rw [m2_1093])
  · exact mv_fr (hres e0) (fun b _ _ => by rw [m2_1094])
  · rw [m2_1097, ← hg3, w_fi_at (by omega) (by omega), Nat.add_sub_cancel_left]
    exact T2.2.2 j hj
  · rw [m2_1098, ← hg2]; exact w_up_at
  · rw [m2_1096, ← hg1, w_up_at, z30, hl1]
  · rw [m2_1095]; exact hrec rfl j (by omega)
end S9z
