/-! ===== a kept run is given again, by both ===== -/
/-- the model's steps after its values are copied -/
def recT (c : Nat) (r5 o : Nat) (inc : Bool) (m1 : Hp) : Option Hp :=
  (p_193 m1 r5 (Int32.ofNat o) 1094 (Int32.ofNat (9 * c))).bind fun v =>
  p_217 (if inc = true then w_up (w_up v 1092 c 0) 1076 21 ((w_up v 1092 c 0) 1076 21 + 1) else w_up v 1092 c 0) (Int32.ofNat c) 1
section SA1
variable {h h' h1 m m' m1 g : Hp} {T D L : List Int32} {c k n nw pc po : Nat} {lang us : Int32} {e W : Nat → Option VL} {F : Nat → KEn}
theorem ran_pre (R : ran h1 m1 h' m' c k nw T lang) (fh : w_fr (fun z => z = 46 ∨ z = 47) h h1) (fm : w_fr (fun q => q = 1132) m m1) : ran h m h' m' c k nw T lang := by
  have eh : ∀ z, z ≠ 46 → z ≠ 47 → h1 z = h z := fun z n1 n2 => fh z (by omega)
  have em : ∀ q, q ≠ 1132 → m1 q = m q := fun q n1 => fm q n1
  obtain ⟨⟨a1, a2, ⟨o1, o2, o3, o4, o5, o6, o7⟩, a4, a5, a6, a7⟩, ⟨b1, b2, b3, b4, b5, b6, b7, b8⟩, ⟨d1, d2, d3, d4, d5, d6, d7, d8⟩, r4, r5, r6, r7⟩ := R
  refine ⟨⟨fun z hz => ?_, fun q hq => ?_, ⟨fun q b hq hb => ?_, fun b hb => ?_, fun b hb => ?_, fun b hb => ?_, fun q b hq hb => ?_, fun b hb => ?_, fun kk hk => ?_⟩, fun b x1 x2 x3 x4 => ?_, fun b hb => ?_, ?_, fun b y1 y2 y3 y4 y5 y6 y7 y8 y9 y10 y11 y12 y13 y14 y15 y16 y17 => ?_⟩, ⟨b1, b2, fun hh => b3 ?_, fun hh => b4 ?_, b5, b6, b7, b8⟩, ⟨d1, d2, ?_, d4, ?_, ?_, fun w hw => ?_, d8⟩, r4, r5, r6, r7⟩
  · rw [a1 z hz]; exact eh z (fun h => hz (by unfold hrP; omega)) (fun h => hz (by unfold hrP; omega))
  · rw [a2 q hq]; exact em q (fun h => hq (by unfold mrP evgP evfP; omega))
  · rw [o1 q b hq hb, em q (by omega)]
  · rw [o2 b hb, em _ (by decide)]
  · rw [o3 b hb, em _ (by decide)]
  · rw [o4 b hb, em _ (by decide)]
  · rw [o5 q b hq hb, em q (by omega)]
  · rw [o6 b hb, em _ (by decide)]
  · obtain ⟨k1, k2, k3, k4, k5⟩ := o7 kk hk
    exact ⟨fun b hb => by rw [k1 b hb, em _ (by decide)], by rw [k2, em _ (by decide)], fun b hb => by rw [k3 b hb, em _ (by decide)], fun b hb => by rw [k4 b hb, em _ (by decide)], fun b hb => by rw [k5 b hb, em _ (by decide)]⟩
  · rw [a4 b x1 x2 x3 x4, eh 0 (by decide) (by decide)]
  · rw [a5 b hb, eh _ (by omega) (by omega)]
  · rw [a6, eh 40 (by decide) (by decide)]
  · rw [a7 b y1 y2 y3 y4 y5 y6 y7 y8 y9 y10 y11 y12 y13 y14 y15 y16 y17, em _ (by decide)]
  · rw [eh 0 (by decide) (by decide), em _ (by decide)]; exact hh
  · rw [eh 0 (by decide) (by decide), em _ (by decide)]; exact hh
  · rw [d3, eh 14 (by decide) (by decide)]
  · rw [d5, em _ (by decide)]
  · rw [d6, em _ (by decide)]
  · rw [(d7 w hw).1, (d7 w hw).2, eh 8 (by decide) (by decide), em _ (by decide)]; exact ⟨rfl, rfl⟩
theorem run_rec {x2 : Int32} {inc : Bool} {q r4 r5 o : Nat} (hx : (x2 = 0 ∧ inc = true) ∨ (x2 = 1 ∧ inc = false)) (hc : c < 16) (h4 : nw ≤ 4) (hw : h 4 7 = Int32.ofNat nw) (h48 : m 1076 48 = Int32.ofNat nw) (C : cel h m c T lang) (hq : 64 * c + 69 ≤ q) (htag : w_tag q = 3) (K1 : ∀ x, x < 27 → cv h (q + 6) x (W x)) (hr4 : r4 = 1104 ∨ r4 = 1110) (hr5 : r5 = 1105 ∨ r5 = 1111) (hol : o * 9 + 9 ≤ w_len r5) (K2 : ∀ x, x < 26 → mv m r4 (234 * o + 9 * x) (W x)) (K3 : mv m r5 (9 * o) (W 26)) (K4 : ∀ x, x < 26 → bt ((rdA T lang).2.2.2.2.2.1 ||| (rdA T lang).2.2.2.2.2.2.1) x = true → (W x).isSome = true) (P : PAST h m c lang pc po F) (hD : drc h (64 * c + 65) D L) (hM : dr1 m c D L) (hv : vld m 1093) (hch : h 40 0 = m 1076 31) (h29 : m 1076 29 = 0) (hk : h 0 14 = Int32.ofNat k) (hk' : m 1076 19 = Int32.ofNat k) : ∃ h' m', q_139_19 h (Int32.ofNat c) x2 (64 * c + 52) (q + 1) = some (1, h') ∧ recT c r5 (9 * o) inc (w_fi m 1093 (234 * c) 234 (fun i => m r4 (234 * o + i))) = some m' ∧ ran h m h' m' c k nw T lang ∧ m' 1076 20 = m 1076 20 := by
  have l1094 : w_len 1094 = 144 := by decide +kernel
  have lr5 : w_len r5 ≤ 100000 := by rcases hr5 with rfl | rfl <;> decide +kernel
  -- the class
  obtain ⟨g1, p1, v1, f1⟩ := c_72 (h := h) (q := 64 * c + 59) (q2 := q + 6) (by omega) (by omega)
  have f1' : ∀ z, z ≠ 64 * c + 60 → z ≠ 64 * c + 61 → g1 z = h z := fun z n1 n2 => f1 z (by omega)
  generalize hg2 : w_up g1 (64 * c + 52) 11 0 = g2
  have g2q : ∀ z, z ≠ 64 * c + 52 → g2 z = g1 z := fun z hz => by rw [← hg2]; exact funext fun b => w_up_q hz
  have g2b : ∀ b, b ≠ 11 → g2 (64 * c + 52) b = h (64 * c + 52) b := fun b hb => by rw [← hg2, w_up_b hb, f1' _ (by omega) (by omega)]
  have g211 : g2 (64 * c + 52) 11 = 0 := by rw [← hg2]; exact w_up_at
  have h013 : g2 0 13 = h 0 13 := by rw [g2q 0 (by omega), f1' 0 (by omega) (by omega)]
  generalize hg3 : w_up g2 0 13 (h 0 13 + (if x2 = 0 then 1 else 0 : Int32)) = g3
  have g3q : ∀ z, z ≠ 0 → g3 z = g2 z := fun z hz => by rw [← hg3]; exact funext fun b => w_up_q hz
  have g3b : ∀ b, b ≠ 13 → g3 0 b = h 0 b := fun b hb => by rw [← hg3, w_up_b hb, g2q 0 (by omega), f1' 0 (by omega) (by omega)]
  have g313 : g3 0 13 = h 0 13 + (if x2 = 0 then 1 else 0 : Int32) := by rw [← hg3]; exact w_up_at
  have g3z : ∀ z, z ≠ 0 → z ≠ 64 * c + 52 → z ≠ 64 * c + 60 → z ≠ 64 * c + 61 → g3 z = h z := fun z n0 n1 n2 n3 => by rw [g3q z n0, g2q z n1, f1' z n2 n3]
  obtain ⟨h3, s1, s2, s3, s4, s5, s6, s7, s8, s9, s10⟩ := c_86 (h := g3) (n4 := q + 1) (nw := nw) hc (by rw [g3z 4 (by omega) (by omega) (by omega) (by omega)]; exact hw) h4
  have s10' : ∀ z, z ≠ 0 → z ≠ 64 * c + 52 → z ≠ 64 * c + 79 → h3 z = g3 z := fun z n1 n2 n3 => s10 z (by omega)
  have e14 : g3 0 14 + 1 = Int32.ofNat (k + 1) := by rw [g3b 14 (by decide), hk, u_S]
  have e1 : q_139_19 h (Int32.ofNat c) x2 (64 * c + 52) (q + 1) = some (1, h3) := by
    unfold q_139_19
    rw [if_neg (Nat.succ_ne_zero q), Nat.add_sub_cancel]
    have hg : (w_tag q == 3 && 3 != 999) = true := by rw [htag]; rfl
    rw [hg]
    simp only [w_gd]
    rw [show 64 * c + 52 + 7 = 64 * c + 59 by omega, p1]
    simp only [Option.bind_some, w_let]
    unfold q_139_38
    simp only [w_let]
    rw [hg2, h013, hg3, s1, if_neg (Nat.succ_ne_zero q)]
  -- the model
  generalize hm1 : w_fi m 1093 (234 * c) 234 (fun i => m r4 (234 * o + i)) = m1
  have m1q : ∀ z, z ≠ 1093 → m1 z = m z := fun z hz => by rw [← hm1]; exact funext fun b => w_fi_q hz
  have p193 := m_193 (m := m1) (r := r5) (r2 := 1094) (o := 9 * o) (o2 := 9 * c) (by omega) (by rw [l1094]; omega) lr5 (by rw [l1094]; decide) (Or.inl (by omega))
  generalize hm2 : w_fi m1 1094 (9 * c) 9 (fun i => m1 r5 (9 * o + i)) = m2 at p193
  have m2q : ∀ z, z ≠ 1093 → z ≠ 1094 → m2 z = m z := fun z n1 n2 => by rw [← hm2, ← m1q z n1]; exact funext fun b => w_fi_q n2
  have hX : ∃ m3, (if inc = true then w_up (w_up m2 1092 c 0) 1076 21 ((w_up m2 1092 c 0) 1076 21 + 1) else w_up m2 1092 c 0) = m3 ∧ (∀ z, z ≠ 1092 → z ≠ 1076 → m3 z = m2 z) ∧ (∀ b, m3 1092 b = w_up m2 1092 c 0 1092 b) ∧ (∀ b, b ≠ 21 → m3 1076 b = m 1076 b) ∧ m3 1076 21 = m 1076 21 + (if x2 = 0 then 1 else 0 : Int32) := by
    have z21 : (w_up m2 1092 c 0) 1076 21 = m 1076 21 := by rw [w_up_q (by decide), m2q 1076 (by decide) (by decide)]
    rcases hx with ⟨x0, i0⟩ | ⟨x1, i1⟩
    · rw [if_pos i0, z21]
      refine ⟨_, rfl, fun z n1 n2 => funext fun b => by rw [w_up_q n2, w_up_q n1], fun b => by rw [w_up_q (by decide)], fun b hb => by rw [w_up_b hb, w_up_q (by decide), m2q 1076 (by decide) (by decide)], by rw [w_up_at, if_pos x0]⟩
    · rw [if_neg (by rw [i1]; decide)]
      refine ⟨_, rfl, fun z n1 n2 => funext fun b => by rw [w_up_q n1], fun b => rfl, fun b hb => by rw [w_up_q (by decide), m2q 1076 (by decide) (by decide)], by rw [z21, if_neg (by rw [x1]; decide)]; exact (Int32.add_zero _).symm⟩
  obtain ⟨m3, hm3, m3q, m392, m3b, m321⟩ := hX
  obtain ⟨m4, p4, k1, k2, k3, k4, k5, k6, k7, k8, k9, k10, k11⟩ := m_217 (m := m3) (c := c) (k := k) (nw := nw) (x2 := 1) hc h4 (by rw [m3b 48 (by decide), h48]) (by rw [m3b 19 (by decide), hk'])
  have m4q : ∀ z, z ≠ 1076 → z ≠ 1087 → z ≠ 1088 → z ≠ 1089 → z ≠ 1090 → z ≠ 1091 → z ≠ 1092 → z ≠ 1093 → z ≠ 1094 → m4 z = m z := fun z n1 n2 n3 n4 n5 n6 n7 n8 n9 => by rw [k8 z (by omega), m3q z n7 n1, m2q z n8 n9]
  have m4_93 : ∀ b, m4 1093 b = m1 1093 b := fun b => by rw [k8 1093 (by decide), m3q 1093 (by decide) (by decide), ← hm2, w_fi_q (by decide)]
  have m4_94 : ∀ b, m4 1094 b = m2 1094 b := fun b => by rw [k8 1094 (by decide), m3q 1094 (by decide) (by decide)]
  have m4_93c : ∀ x, x < 26 → mv m4 1093 (234 * c + 9 * x) (W x) := fun x hx => mv_cq (K2 x hx) (fun b hb => by
    rw [m4_93, ← hm1, w_fi_at (by omega) (by omega)]
    rw [show 234 * c + 9 * x + b - 234 * c = 9 * x + b by omega, ← Nat.add_assoc])
  have m4o : ∀ z, (z = 1087 ∨ z = 1088 ∨ z = 1089 ∨ z = 1090 ∨ z = 1091) → m3 z = m z := fun z hz => by rw [m3q z (by omega) (by omega), m2q z (by omega) (by omega)]
  refine ⟨h3, m4, e1, ?_, ⟨⟨fun z hz => ?_, fun z hz => ?_, ⟨fun z b hz hb => ?_, fun b hb => ?_, fun b hb => ?_, fun b hb => ?_, fun z b hz hb => ?_, fun b hb => ?_, fun kk hkk => ⟨fun b hb => ?_, ?_, fun b hb => ?_, fun b hb => ?_, fun b hb => ?_⟩⟩, fun b x1 x2 x3 x4 => ?_, fun b hb => ?_, ?_, fun b y1 y2 y3 y4 y5 y6 y7 y8 y9 y10 y11 y12 y13 y14 y15 y16 y17 => ?_⟩, ⟨?_, ?_, fun hh => ?_, fun hh => ?_, ?_, k1, s3, k2⟩, ⟨s5, ?_, ?_, k3, ?_, ?_, fun w hw => ⟨?_, ?_⟩, Or.inl ⟨?_, k4⟩⟩, ⟨fun _ => ⟨?_, W, fun x hx => ?_, m4_93c, ?_, K4⟩, fun hh => absurd ?_ hh⟩, fun j x hj hx => ?_, ⟨pc, po, F, ?_⟩, ⟨D, L, ?_, ?_⟩⟩, ?_⟩
  · unfold recT
    rw [p193]
    simp only [Option.bind_some]
    rw [hm3]; exact p4
  · rw [s10' z (fun h => hz (by unfold hrP; omega)) (fun h => hz (by unfold hrP; omega)) (fun h => hz (by unfold hrP; omega)), g3z z (fun h => hz (by unfold hrP; omega)) (fun h => hz (by unfold hrP; omega)) (fun h => hz (by unfold hrP; omega)) (fun h => hz (by unfold hrP; omega))]
  · have : ¬ (z = 1076 ∨ z = 1094 ∨ (1087 ≤ z ∧ z ≤ 1093)) := fun hh => hz (by unfold mrP evgP evfP; omega)
    exact m4q z (by omega) (by omega) (by omega) (by omega) (by omega) (by omega) (by omega) (by omega) (by omega)
  · rcases hz with rfl | rfl | rfl | rfl | rfl | rfl | rfl
    · rw [k10 1087 b (by omega) hb, m4o _ (by omega)]
    · rw [k10 1088 b (by omega) hb, m4o _ (by omega)]
    · rw [k10 1089 b (by omega) hb, m4o _ (by omega)]
    · rw [k10 1090 b (by omega) hb, m4o _ (by omega)]
    · rw [k8 1092 (by decide), m392, w_up_b hb, m2q 1092 (by decide) (by decide)]
    · rw [m4q 1096 (by decide) (by decide) (by decide) (by decide) (by decide) (by decide) (by decide) (by decide) (by decide)]
    · rw [m4q 1098 (by decide) (by decide) (by decide) (by decide) (by decide) (by decide) (by decide) (by decide) (by decide)]
  · rw [k11 b hb, m4o _ (by omega)]
  · rw [m4_93, ← hm1, w_fi_b (by omega)]
  · rw [m4_94, ← hm2, w_fi_b (by omega), m1q 1094 (by decide)]
  · rw [m4q z (by omega) (by omega) (by omega) (by omega) (by omega) (by omega) (by omega) (by omega) (by omega)]
  · rw [m4q 1100 (by decide) (by decide) (by decide) (by decide) (by decide) (by decide) (by decide) (by decide) (by decide)]
  · rw [m4q 1101 (by decide) (by decide) (by decide) (by decide) (by decide) (by decide) (by decide) (by decide) (by decide)]
  · rw [m4q 1102 (by decide) (by decide) (by decide) (by decide) (by decide) (by decide) (by decide) (by decide) (by decide)]
  · rw [m4q 1103 (by decide) (by decide) (by decide) (by decide) (by decide) (by decide) (by decide) (by decide) (by decide)]
  · rw [m4q 1104 (by decide) (by decide) (by decide) (by decide) (by decide) (by decide) (by decide) (by decide) (by decide)]
  · rw [m4q 1105 (by decide) (by decide) (by decide) (by decide) (by decide) (by decide) (by decide) (by decide) (by decide)]
  · rw [s4 b x3 x4]; exact g3b b x2
  · rw [s8 b (by omega), g3q _ (by omega)]; exact g2b b (by omega)
  · rw [s10' 40 (by omega) (by omega) (by omega), g3z 40 (by omega) (by omega) (by omega) (by omega)]
  · rw [k9 b y1 y8, m3b b y3]
  · rw [s10' 40 (by omega) (by omega) (by omega), g3z 40 (by omega) (by omega) (by omega) (by omega), k9 31 (by decide) (by decide), m3b 31 (by decide)]; exact hch
  · rw [k9 29 (by decide) (by decide), m3b 29 (by decide)]; exact h29
  · rw [s4 12 (by decide) (by decide), g3b 12 (by decide), k9 20 (by decide) (by decide), m3b 20 (by decide)]; exact hh
  · rw [s4 13 (by decide) (by decide), g313, k9 21 (by decide) (by decide), m321, hh]
  · rw [s2, e14]
  · rw [s6, e14]
  · rw [s7, g3z 14 (by omega) (by omega) (by omega) (by omega)]
  · rw [k5, m3q 1082 (by decide) (by decide), m2q 1082 (by decide) (by decide)]
  · rw [k6, m3q 1120 (by decide) (by decide), m2q 1120 (by decide) (by decide)]
  · rw [s9 w hw, g3z 8 (by omega) (by omega) (by omega) (by omega)]
  · rw [k7 w hw, m3q 1115 (by decide) (by decide), m2q 1115 (by decide) (by decide)]
  · rw [s8 11 (by omega), g3q _ (by omega)]; exact g211
  · rw [k8 1092 (by decide), m392, w_up_at]
  · refine cv_fr (v1 x (W x) hx (K1 x hx)) ?_ ?_
    · rw [s10' _ (by omega) (by omega) (by omega), g3q _ (by omega), g2q _ (by omega)]
    · rw [s10' _ (by omega) (by omega) (by omega), g3q _ (by omega), g2q _ (by omega)]
  · exact mv_cq K3 (fun b hb => by
      rw [m4_94, ← hm2, w_fi_at (by omega) (by omega), Nat.add_sub_cancel_left, m1q r5 (by omega)])
  · rw [s8 11 (by omega), g3q _ (by omega)]; exact g211
  · by_cases ej : j = c
    · subst ej; exact ⟨_, m4_93c x hx⟩
    · obtain ⟨v, hv⟩ := hv j x hj hx
      exact ⟨v, mv_fr hv (fun b h1 h2 => by rw [m4_93, ← hm1, w_fi_b (by omega)])⟩
  · exact PAST_mv P (by rw [s8 8 (by omega), g3q _ (by omega)]; exact g2b 8 (by decide)) (by rw [s8 9 (by omega), g3q _ (by omega)]; exact g2b 9 (by decide)) (fun z a b => by rw [s10' z (by omega) (by omega) (by omega), g3z z (by omega) (by omega) (by omega) (by omega)]) (by rw [m4q 1100 (by decide) (by decide) (by decide) (by decide) (by decide) (by decide) (by decide) (by decide) (by decide)]) (fun kk _ _ => ⟨fun b _ => by rw [m4q 1101 (by decide) (by decide) (by decide) (by decide) (by decide) (by decide) (by decide) (by decide) (by decide)], by rw [m4q 1102 (by decide) (by decide) (by decide) (by decide) (by decide) (by decide) (by decide) (by decide) (by decide)], fun b _ => by rw [m4q 1103 (by decide) (by decide) (by decide) (by decide) (by decide) (by decide) (by decide) (by decide) (by decide)], fun b _ => by rw [m4q 1104 (by decide) (by decide) (by decide) (by decide) (by decide) (by decide) (by decide) (by decide) (by decide)], fun b _ => by rw [m4q 1105 (by decide) (by decide) (by decide) (by decide) (by decide) (by decide) (by decide) (by decide) (by decide)]⟩)
  · obtain ⟨a1, a2, a3, a4⟩ := hD
    have sm : ∀ z, 64 * c + 65 ≤ z → z ≤ 64 * c + 68 → h3 z = h z := fun z b1 b2 => by rw [s10' z (by omega) (by omega) (by omega), g3z z (by omega) (by omega) (by omega) (by omega)]
    exact ⟨tx_fr2 a1 (sm _ (by omega) (by omega)) (sm _ (by omega) (by omega)), a2, by rw [sm _ (by omega) (by omega)]; exact a3, fun i hi => by rw [sm _ (by omega) (by omega)]; exact a4 i hi⟩
  · obtain ⟨a1, a2, a3, a4, a5, a6⟩ := hM
    have sm : ∀ z, (z = 1095 ∨ z = 1096 ∨ z = 1097 ∨ z = 1098) → m4 z = m z := fun z hz => m4q z (by omega) (by omega) (by omega) (by omega) (by omega) (by omega) (by omega) (by omega) (by omega)
    exact ⟨a1, fun j hj => by rw [sm 1097 (by omega)]; exact a2 j hj, by rw [sm 1098 (by omega)]; exact a3, by rw [sm 1096 (by omega)]; exact a4, a5, fun j hj => by rw [sm 1095 (by omega)]; exact a6 j hj⟩
  · rw [k9 20 (by decide) (by decide), m3b 20 (by decide)]
end SA1
