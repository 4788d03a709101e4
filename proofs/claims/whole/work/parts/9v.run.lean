/-! ===== a run begins, a run is entered ===== -/
/-- the draws of a cell, as the class keeps them at R -/
def drc (h : Hp) (R : Nat) (D L : List Int32) : Prop := tx h (R + 1) D ∧ L.length ≤ 40 ∧ h R 2 = Int32.ofNat L.length ∧ ∀ i, i < L.length → h (R + 3) i = L.getD i 0
section S9v
variable {h h' m m' g : Hp} {T D L : List Int32} {c k n nw : Nat}
/-- the class begins a run: what it tells again, and whether it notes -/
theorem c_53 {x3 x4 : Int32} (hc : c < 16) (hT : tx h (64 * c + 53) T) (hD : drc h (64 * c + 65) D L) (hx : x4 = 0 ∨ x4 = 1) : ∃ h', p_53 h (64 * c + 65) (64 * c + 53) x3 x4 = some h' ∧ dcx h' (64 * c + 65) (decide (x4 = 0), tld x3 D T L, h 40 1) (0, h 40 0, []) ∧ (x4 = 1 → tx h' (64 * c + 66) T) ∧ w_fr (fun z => z = 40 ∨ (x4 = 1 ∧ (z = 64 * c + 65 ∨ z = 64 * c + 66 ∨ z = 64 * c + 67))) h h' ∧ (∀ b, b < 2 ∨ 5 < b → h' 40 b = h 40 b) ∧ (∀ b, b ≠ 2 → h' (64 * c + 65) b = h (64 * c + 65) b) := by
  obtain ⟨d1, d2, d3, d4⟩ := hD
  have tg : w_tag (64 * c + 65) = 2 := by
    have : ∀ c, c < 16 → w_tag (64 * c + 65) = 2 := by decide +kernel
    exact this c hc
  have beg : p_53 h (64 * c + 65) (64 * c + 53) x3 x4 = q_53_12 h (64 * c + 65) (64 * c + 53) x4 (Int32.ofNat (tld x3 D T L).length) := by
    unfold p_53
    by_cases h0 : x3 = 0
    · rw [if_pos h0]
      unfold q_53_11 tld
      rw [if_neg (fun h => h.1 h0)]; rfl
    · rw [if_neg h0, s_60 d1 hT]
      simp only [Option.bind_some]
      unfold tld
      by_cases e : D = T
      · rw [decide_eq_true e, if_neg (by decide), if_pos ⟨h0, e⟩, d3]
      · rw [decide_eq_false e, if_pos (by rfl), if_neg (fun h => e h.2)]; rfl
  have htl : (tld x3 D T L).length ≤ 40 ∧ ∀ i, i < (tld x3 D T L).length → h (64 * c + 68) i = (tld x3 D T L).getD i 0 := by
    unfold tld
    by_cases e : ¬ x3 = 0 ∧ D = T
    · rw [if_pos e]; exact ⟨d2, d4⟩
    · rw [if_neg e]; exact ⟨Nat.zero_le _, fun i hi => by cases hi⟩
  rw [beg]
  generalize tld x3 D T L = tl at *
  generalize hg : w_up (w_up (w_up (w_up h 40 4 (Int32.ofNat tl.length)) 40 2 (Int32.ofNat (64 * c + 65))) 40 3 0) 40 5 x4 = g
  have gq : ∀ q, q ≠ 40 → g q = h q := fun q hq => by rw [← hg]; exact funext fun b => by rw [w_up_q hq, w_up_q hq, w_up_q hq, w_up_q hq]
  have gb : ∀ b, b < 2 ∨ 5 < b → g 40 b = h 40 b := fun b hb => by rw [← hg, w_up_b (by omega), w_up_b (by omega), w_up_b (by omega), w_up_b (by omega)]
  have g5 : g 40 5 = x4 := by rw [← hg]; exact w_up_at
  have g3 : g 40 3 = 0 := by rw [← hg, w_up_b (by decide)]; exact w_up_at
  have g2 : g 40 2 = Int32.ofNat (64 * c + 65) := by rw [← hg, w_up_b (by decide), w_up_b (by decide)]; exact w_up_at
  have g4 : g 40 4 = Int32.ofNat tl.length := by rw [← hg, w_up_b (by decide), w_up_b (by decide), w_up_b (by decide)]; exact w_up_at
  have mk : ∀ f : Hp, f 40 = g 40 → f (64 * c + 68) = h (64 * c + 68) → (x4 = 1 → f (64 * c + 65) 2 = 0) → dcx f (64 * c + 65) (decide (x4 = 0), tl, h 40 1) (0, h 40 0, []) := by
    intro f e1 e2 e3
    have z : decide (x4 = 0) = false → f (64 * c + 65) 2 = Int32.ofNat 0 := fun hh => by
      rcases hx with h | h
      · rw [h] at hh; cases hh
      · exact e3 h
    refine ⟨⟨by omega, by omega, tg, by rw [e1]; exact g2, by rw [e1]; exact g3, Nat.zero_le _, by rw [e1]; exact g4, htl.1, by rw [e1, g5]; exact decide_eq_true_iff.symm, by rw [e1]; exact gb 0 (by decide), by rw [e1]; exact gb 1 (by decide), rfl, fun hh => ⟨fun i hi => absurd hi (Nat.not_lt_zero i), fun hi => absurd hi (Nat.not_lt_zero 0)⟩, fun i _ hi => ?_⟩, z⟩
    rw [show 64 * c + 65 + 3 = 64 * c + 68 by omega, e2]
    exact htl.2 i hi
  have st : q_53_12 h (64 * c + 65) (64 * c + 53) x4 (Int32.ofNat tl.length) = if x4 = 0 then some g else ((p_61 g (64 * c + 65 + 1) (64 * c + 53)).bind fun vz8 =>
    w_let (w_up vz8 (64 * c + 65) 2 0) fun hz9 =>
    some hz9) := by
    unfold q_53_12
    have hb : w_bo x4 = true := by rcases hx with h | h <;> subst h <;> decide
    simp only [w_let, w_gd, hb, if_true, hg]
  rw [st]
  rcases hx with h0 | h1
  · rw [if_pos h0]
    exact ⟨g, rfl, mk g rfl (gq _ (by omega)) (fun h => by rw [h0] at h; exact absurd h (by decide)), fun h => by rw [h0] at h; exact absurd h (by decide), fun z hz => gq z (by omega), gb, fun b _ => by rw [gq _ (by omega)]⟩
  · rw [if_neg (by rw [h1]; decide)]
    obtain ⟨f, p, f1, f2, f3⟩ := s_61 (h := g) (q0 := 64 * c + 65 + 1) (q1 := 64 * c + 53) (T := T) (tx_fr2 hT (gq _ (by omega)) (gq _ (by omega))) (by omega) (by omega) (by omega)
    rw [p]
    simp only [Option.bind_some, w_let]
    have eq : ∀ z, z ≠ 64 * c + 65 → (w_up f (64 * c + 65) 2 0) z = f z := fun z hz => funext fun b => w_up_q hz
    refine ⟨_, rfl, mk _ ?_ ?_ (fun _ => w_up_at), fun _ => tx_fr2 f3 (eq _ (by omega)) (eq _ (by omega)), fun z hz => ?_, fun b hb => ?_, fun b hb => ?_⟩
    · rw [eq 40 (by omega)]; exact f1 40 (by omega)
    · rw [eq _ (by omega), f1 _ (by omega), gq _ (by omega)]
    · have : ¬ (z = 40 ∨ z = 64 * c + 65 ∨ z = 64 * c + 66 ∨ z = 64 * c + 67) := fun h => hz (by rcases h with h | h; exact Or.inl h; exact Or.inr ⟨h1, h⟩)
      rw [eq z (by omega), f1 z (by omega), gq z (by omega)]
    · rw [eq 40 (by omega), f1 40 (by omega)]; exact gb b hb
    · rw [w_up_b hb, f1 _ (by omega), gq _ (by omega)]
/-- the class enters a run -/
theorem c_4 {q : Nat} {x1 x2 : Int32} (hw : h 4 7 = Int32.ofNat nw) (h4 : nw ≤ 4) (hq : 8 < q) : ∃ h', p_4 h q x1 x2 = some h' ∧ h' q 15 = 1 ∧ h' q 14 = x1 ∧ h' q 13 = x2 ∧ (∀ b, b < 13 ∨ 15 < b → h' q b = h q b) ∧ (∀ w, w < nw → h' (q + 27) w = h 8 w) ∧ w_fr (fun z => z = q ∨ z = q + 27) h h' := by
  unfold p_4
  simp only [w_let]
  generalize hg : w_up (w_up (w_up h q 15 1) q 14 x1) q 13 x2 = g
  have gq : ∀ z, z ≠ q → g z = h z := fun z hz => by rw [← hg]; exact funext fun b => by rw [w_up_q hz, w_up_q hz, w_up_q hz]
  have g13 : g q 13 = x2 := by rw [← hg]; exact w_up_at
  have g14 : g q 14 = x1 := by rw [← hg, w_up_b (by decide)]; exact w_up_at
  have g15 : g q 15 = 1 := by rw [← hg, w_up_b (by decide), w_up_b (by decide)]; exact w_up_at
  have gb : ∀ b, b < 13 ∨ 15 < b → g q b = h q b := fun b hb => by rw [← hg, w_up_b (by omega), w_up_b (by omega), w_up_b (by omega)]
  have lp : ok (w_lp (fun (s : Int32 × Hp) => l_4_11 q s.1 s.2) w_N (0, g)) (fun f => w_fr (fun z => z = q + 27) g f ∧ ∀ w, w < nw → f (q + 27) w = h 8 w) := by
    refine ok_for (fun i s => s.1 = Int32.ofNat i ∧ w_fr (fun z => z = q + 27) g s.2 ∧ ∀ w, w < nw → w < i → s.2 (q + 27) w = h 8 w) 4 ⟨rfl, w_fr_refl _ _, fun w _ hw => absurd hw (Nat.not_lt_zero w)⟩ (by decide) ?_ ?_
    · rintro i ⟨i', f⟩ hi ⟨e1, hf, hv⟩
      simp only at e1 hf hv
      subst e1
      have fq : ∀ z, z ≠ q + 27 → f z = g z := fun z hz => hf z hz
      have hw' : f 4 7 = Int32.ofNat nw := by rw [fq 4 (by omega), gq 4 (by omega)]; exact hw
      obtain ⟨s1, s2⟩ := s_93 (w := i) hw' h4 (by omega)
      show ok (l_4_11 q (Int32.ofNat i) f) _
      unfold l_4_11
      rw [if_pos ((u_ltL (by omega) (by decide)).mpr hi), s1, s2, u_ix hi (by decide), u_cl (by omega), u_S]
      simp only [w_gd, w_let]
      refine ok_some ⟨rfl, fun z hz => ?_, fun w hw hwi => ?_⟩
      · show (w_up f (q + 27) i (shv f nw i)) z = g z
        rw [show (w_up f (q + 27) i (shv f nw i)) z = f z from funext fun b => w_up_q hz]; exact fq z hz
      · show (w_up f (q + 27) i (shv f nw i)) (q + 27) w = h 8 w
        by_cases e : w = i
        · subst e
          rw [w_up_at]
          unfold shv
          rw [if_pos hw, fq 8 (by omega), gq 8 (by omega)]
        · rw [w_up_b e]; exact hv w hw (by omega)
    · rintro ⟨i', f⟩ ⟨e1, hf, hv⟩
      simp only at e1 hf hv
      subst e1
      show ok (l_4_11 q (Int32.ofNat 4) f) _
      unfold l_4_11
      rw [if_neg (by decide)]
      exact ok_some ⟨hf, fun w hw => hv w hw (by omega)⟩
  obtain ⟨f, p, hf, hv⟩ := lp
  refine ⟨f, p, ?_, ?_, ?_, fun b hb => ?_, hv, fun z hz => ?_⟩
  · rw [hf q (by omega)]; exact g15
  · rw [hf q (by omega)]; exact g14
  · rw [hf q (by omega)]; exact g13
  · rw [hf q (by omega)]; exact gb b hb
  · rw [hf z (by omega)]; exact gq z (by omega)
/-- the model enters a run -/
theorem m_217 {x2 : Int32} (hc : c < 16) (hnw : nw ≤ 4) (h48 : m 1076 48 = Int32.ofNat nw) (h19 : m 1076 19 = Int32.ofNat k) : ∃ m', p_217 m (Int32.ofNat c) x2 = some m' ∧ m' 1076 19 = Int32.ofNat (k + 1) ∧ m' 1076 45 = 0 ∧ m' 1088 c = Int32.ofNat (k + 1) ∧ m' 1087 c = x2 ∧ m' 1089 c = m 1082 c ∧ m' 1090 c = m 1120 c ∧ (∀ w, w < nw → m' 1091 (4 * c + w) = m 1115 w) ∧ w_fr (fun q => q = 1076 ∨ q = 1087 ∨ q = 1088 ∨ q = 1089 ∨ q = 1090 ∨ q = 1091) m m' ∧ (∀ b, b ≠ 19 → b ≠ 45 → m' 1076 b = m 1076 b) ∧ (∀ q b, q = 1087 ∨ q = 1088 ∨ q = 1089 ∨ q = 1090 → b ≠ c → m' q b = m q b) ∧ ∀ b, b < 4 * c ∨ 4 * c + 4 ≤ b → m' 1091 b = m 1091 b := by
  unfold p_217
  rw [u_ix hc (by decide), u_cl (by omega), h19, u_S]
  simp only [w_let, w_gd]
  generalize hg1 : w_up m 1076 19 (Int32.ofNat (k + 1)) = g1
  have g119 : g1 1076 19 = Int32.ofNat (k + 1) := by rw [← hg1]; exact w_up_at
  have g1b : ∀ b, b ≠ 19 → g1 1076 b = m 1076 b := fun b hb => by rw [← hg1]; exact w_up_b hb
  have g1q : ∀ q, q ≠ 1076 → g1 q = m q := fun q hq => by rw [← hg1]; exact funext fun b => w_up_q hq
  rw [g119]
  generalize hg2 : w_up g1 1088 c (Int32.ofNat (k + 1)) = g2
  have g2q : ∀ q, q ≠ 1088 → g2 q = g1 q := fun q hq => by rw [← hg2]; exact funext fun b => w_up_q hq
  generalize hg3 : w_up g2 1087 c x2 = g3
  have g3q : ∀ q, q ≠ 1087 → g3 q = g2 q := fun q hq => by rw [← hg3]; exact funext fun b => w_up_q hq
  rw [show g3 1082 c = m 1082 c by rw [g3q _ (by decide), g2q _ (by decide), g1q _ (by decide)]]
  generalize hg4 : w_up g3 1089 c (m 1082 c) = g4
  have g4q : ∀ q, q ≠ 1089 → g4 q = g3 q := fun q hq => by rw [← hg4]; exact funext fun b => w_up_q hq
  rw [show g4 1120 c = m 1120 c by rw [g4q _ (by decide), g3q _ (by decide), g2q _ (by decide), g1q _ (by decide)]]
  generalize hg5 : w_up g4 1090 c (m 1120 c) = g5
  have g5q : ∀ q, q ≠ 1090 → g5 q = g4 q := fun q hq => by rw [← hg5]; exact funext fun b => w_up_q hq
  have g5m : ∀ q, q ≠ 1076 → q ≠ 1087 → q ≠ 1088 → q ≠ 1089 → q ≠ 1090 → g5 q = m q := fun q h1 h2 h3 h4 h5 => by rw [g5q q h5, g4q q h4, g3q q h2, g2q q h3, g1q q h1]
  have g576 : g5 1076 = g1 1076 := by rw [g5q _ (by decide), g4q _ (by decide), g3q _ (by decide), g2q _ (by decide)]
  have lp : ok (w_lp (fun (s : Int32 × Hp) => l_217_35 (Int32.ofNat c) s.1 s.2) w_N (0, g5)) (fun f => w_fr (fun z => z = 1091) g5 f ∧ (∀ w, w < nw → f 1091 (4 * c + w) = m 1115 w) ∧ ∀ b, b < 4 * c ∨ 4 * c + 4 ≤ b → f 1091 b = m 1091 b) := by
    refine ok_for (fun i s => s.1 = Int32.ofNat i ∧ w_fr (fun z => z = 1091) g5 s.2 ∧ (∀ w, w < nw → w < i → s.2 1091 (4 * c + w) = m 1115 w) ∧ ∀ b, b < 4 * c ∨ 4 * c + 4 ≤ b → s.2 1091 b = m 1091 b) nw ⟨rfl, w_fr_refl _ _, fun w _ hw => absurd hw (Nat.not_lt_zero w), fun b _ => congrFun (g5m 1091 (by decide) (by decide) (by decide) (by decide) (by decide)) b⟩ (by unfold w_N; omega) ?_ ?_
    · rintro i ⟨i', f⟩ hi ⟨e1, hf, hv, hb⟩
      simp only at e1 hf hv hb
      subst e1
      have f48 : f 1076 48 = Int32.ofNat nw := by rw [hf 1076 (by decide), g576, g1b 48 (by decide), h48]
      have ea : (4 : Int32) * Int32.ofNat c + Int32.ofNat i = Int32.ofNat (4 * c + i) := by rw [show (4 : Int32) = Int32.ofNat 4 from rfl, u_mul, u_add]
      show ok (l_217_35 (Int32.ofNat c) (Int32.ofNat i) f) _
      unfold l_217_35
      rw [f48, if_pos ((u_lt (by omega) (by omega)).mpr hi), ea, u_ix (show i < 4 by omega) (by decide), u_ix (show 4 * c + i < 64 by omega) (by decide), u_cl (show i < 2147483648 by omega), u_cl (show 4 * c + i < 2147483648 by omega), u_S, show f 1115 i = m 1115 i by rw [hf 1115 (by decide), g5m 1115 (by decide) (by decide) (by decide) (by decide) (by decide)]]
      simp only [w_gd, w_let]
      refine ok_some ⟨rfl, fun z hz => ?_, fun w hw hwi => ?_, fun b hbb => ?_⟩
      · show (w_up f 1091 (4 * c + i) (m 1115 i)) z = g5 z
        rw [show (w_up f 1091 (4 * c + i) (m 1115 i)) z = f z from funext fun b => w_up_q hz]; exact hf z hz
      · show (w_up f 1091 (4 * c + i) (m 1115 i)) 1091 (4 * c + w) = m 1115 w
        by_cases e : w = i
        · subst e; exact w_up_at
        · rw [w_up_b (by omega)]; exact hv w hw (by omega)
      · show (w_up f 1091 (4 * c + i) (m 1115 i)) 1091 b = m 1091 b
        rw [w_up_b (by omega)]; exact hb b hbb
    · rintro ⟨i', f⟩ ⟨e1, hf, hv, hb⟩
      simp only at e1 hf hv hb
      subst e1
      have f48 : f 1076 48 = Int32.ofNat nw := by rw [hf 1076 (by decide), g576, g1b 48 (by decide), h48]
      show ok (l_217_35 (Int32.ofNat c) (Int32.ofNat nw) f) _
      unfold l_217_35
      rw [f48, if_neg (fun h => Nat.lt_irrefl nw ((u_lt (by omega) (by omega)).mp h))]
      exact ok_some ⟨hf, fun w hw => hv w hw hw, hb⟩
  obtain ⟨f, p, hf, hv, hb⟩ := lp
  rw [p]
  simp only [Option.bind_some]
  have fq : ∀ z, z ≠ 1076 → (w_up f 1076 45 0) z = f z := fun z hz => funext fun b => w_up_q hz
  refine ⟨_, rfl, ?_, w_up_at, ?_, ?_, ?_, ?_, fun w hw => ?_, fun q hq => ?_, fun b h1 h2 => ?_, fun q b hq hbc => ?_, fun b hbb => ?_⟩
  · rw [w_up_b (by decide), hf 1076 (by decide), g576]; exact g119
  · rw [fq _ (by decide), hf _ (by decide), g5q _ (by decide), g4q _ (by decide), g3q _ (by decide), ← hg2]; exact w_up_at
  · rw [fq _ (by decide), hf _ (by decide), g5q _ (by decide), g4q _ (by decide), ← hg3]; exact w_up_at
  · rw [fq _ (by decide), hf _ (by decide), g5q _ (by decide), ← hg4]; exact w_up_at
  · rw [fq _ (by decide), hf _ (by decide), ← hg5]; exact w_up_at
  · rw [fq _ (by decide)]; exact hv w hw
  · rw [fq q (by omega), hf q (by omega), g5m q (by omega) (by omega) (by omega) (by omega) (by omega)]
  · rw [w_up_b h2, hf 1076 (by decide), g576]; exact g1b b h1
  · rcases hq with rfl | rfl | rfl | rfl
    · rw [fq _ (by decide), hf _ (by decide), g5q _ (by decide), g4q _ (by decide), ← hg3, w_up_b hbc, g2q _ (by decide), g1q _ (by decide)]
    · rw [fq _ (by decide), hf _ (by decide), g5q _ (by decide), g4q _ (by decide), g3q _ (by decide), ← hg2, w_up_b hbc, g1q _ (by decide)]
    · rw [fq _ (by decide), hf _ (by decide), g5q _ (by decide), ← hg4, w_up_b hbc, g3q _ (by decide), g2q _ (by decide), g1q _ (by decide)]
    · rw [fq _ (by decide), hf _ (by decide), ← hg5, w_up_b hbc, g4q _ (by decide), g3q _ (by decide), g2q _ (by decide), g1q _ (by decide)]
  · rw [fq _ (by decide)]; exact hb b hbb
end S9v
