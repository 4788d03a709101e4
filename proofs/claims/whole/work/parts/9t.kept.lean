/-! ===== a run is kept ===== -/
def shx (c i k : Nat) : Nat := if 4 * c ≤ k ∧ k < 4 * c + i then k + 1 else k
section S9t
variable {h h' m m' g : Hp} {T : List Int32} {c : Nat} {lang : Int32} {pc po : Nat} {F : Nat → KEn} {e fe V : Nat → Option VL}
theorem shf {r w i : Nat} (hg : ∀ k b, b < w → g r (w * k + b) = m r (w * shx c i k + b)) : ∀ k b, b < w → w_fi g r (w * (4 * c + i)) w (fun j => g r (w * (4 * c + i) + w + j)) r (w * k + b) = m r (w * shx c (i + 1) k + b) := by
  intro k b hb
  by_cases e : k = 4 * c + i
  · subst e
    rw [w_fi_at (by omega) (by omega), Nat.add_sub_cancel_left]
    have := hg (4 * c + i + 1) b hb
    rw [Nat.mul_succ] at this
    rw [this]
    have s1 : shx c i (4 * c + i + 1) = 4 * c + i + 1 := by unfold shx; rw [if_neg (by omega)]
    have s2 : shx c (i + 1) (4 * c + i) = 4 * c + i + 1 := by unfold shx; rw [if_pos (by omega)]
    rw [s1, s2]
  · have hout : w * k + b < w * (4 * c + i) ∨ w * (4 * c + i) + w ≤ w * k + b := by
      rcases Nat.lt_or_gt_of_ne e with h | h
      · left
        have := Nat.mul_le_mul_left w (show k + 1 ≤ 4 * c + i from h)
        rw [Nat.mul_succ] at this; omega
      · right
        have := Nat.mul_le_mul_left w (show 4 * c + i + 1 ≤ k from h)
        rw [Nat.mul_succ] at this; omega
    rw [w_fi_b hout, hg k b hb]
    have : shx c (i + 1) k = shx c i k := by
      unfold shx
      by_cases h1 : 4 * c ≤ k ∧ k < 4 * c + i
      · rw [if_pos h1, if_pos (by omega)]
      · rw [if_neg h1, if_neg (by omega)]
    rw [this]
/-- the oldest of four goes -/
theorem m_shift (hc : c < 16) : ∃ g, w_lp (fun (s : Int32 × Hp) => l_222_21 (Int32.ofNat c) s.1 s.2) w_N (Int32.ofNat (4 * c), m) = some g ∧ w_fr (fun q => 1101 ≤ q ∧ q ≤ 1105) m g ∧ (∀ k b, b < 40 → g 1101 (40 * k + b) = m 1101 (40 * shx c 3 k + b)) ∧ (∀ k, g 1102 k = m 1102 (shx c 3 k)) ∧ (∀ k b, b < 234 → g 1103 (234 * k + b) = m 1103 (234 * shx c 3 k + b)) ∧ (∀ k b, b < 234 → g 1104 (234 * k + b) = m 1104 (234 * shx c 3 k + b)) ∧ ∀ k b, b < 9 → g 1105 (9 * k + b) = m 1105 (9 * shx c 3 k + b) := by
  have sh0 : ∀ k, shx c 0 k = k := fun k => by unfold shx; rw [if_neg (by omega)]
  have l1 : w_len 1101 = 2560 := by decide +kernel
  have l3 : w_len 1103 = 14976 := by decide +kernel
  have l4 : w_len 1104 = 14976 := by decide +kernel
  have l5 : w_len 1105 = 576 := by decide +kernel
  have lp : ok (w_lp (fun (s : Int32 × Hp) => l_222_21 (Int32.ofNat c) s.1 s.2) w_N (Int32.ofNat (4 * c), m)) (fun g => w_fr (fun q => 1101 ≤ q ∧ q ≤ 1105) m g ∧ (∀ k b, b < 40 → g 1101 (40 * k + b) = m 1101 (40 * shx c 3 k + b)) ∧ (∀ k, g 1102 k = m 1102 (shx c 3 k)) ∧ (∀ k b, b < 234 → g 1103 (234 * k + b) = m 1103 (234 * shx c 3 k + b)) ∧ (∀ k b, b < 234 → g 1104 (234 * k + b) = m 1104 (234 * shx c 3 k + b)) ∧ ∀ k b, b < 9 → g 1105 (9 * k + b) = m 1105 (9 * shx c 3 k + b)) := by
    refine ok_for (fun i s => s.1 = Int32.ofNat (4 * c + i) ∧ w_fr (fun q => 1101 ≤ q ∧ q ≤ 1105) m s.2 ∧ (∀ k b, b < 40 → s.2 1101 (40 * k + b) = m 1101 (40 * shx c i k + b)) ∧ (∀ k, s.2 1102 k = m 1102 (shx c i k)) ∧ (∀ k b, b < 234 → s.2 1103 (234 * k + b) = m 1103 (234 * shx c i k + b)) ∧ (∀ k b, b < 234 → s.2 1104 (234 * k + b) = m 1104 (234 * shx c i k + b)) ∧ ∀ k b, b < 9 → s.2 1105 (9 * k + b) = m 1105 (9 * shx c i k + b)) 3 ⟨rfl, w_fr_refl _ _, fun k b _ => by rw [sh0], fun k => by rw [sh0], fun k b _ => by rw [sh0], fun k b _ => by rw [sh0], fun k b _ => by rw [sh0]⟩ (by decide) ?_ ?_
    · rintro i ⟨i', g⟩ hi ⟨e1, hf, f1, f2, f3, f4, f5⟩
      simp only at e1 hf f1 f2 f3 f4 f5
      subst e1
      have hlt : Int32.ofNat (4 * c + i) < (4 : Int32) * Int32.ofNat c + 4 - 1 := by
        have e : (4 : Int32) * Int32.ofNat c + 4 - 1 = Int32.ofNat (4 * c + 3) := by
          rw [show (4 : Int32) * Int32.ofNat c = Int32.ofNat (4 * c) by rw [show (4 : Int32) = Int32.ofNat 4 from rfl, u_mul]]
          have a1 := u_addL (4 * c) 4
          have a2 := u_subL (a := 4 * c + 4) (n := 1) (by omega)
          rw [a1, a2]; congr 1
        rw [e]; exact (u_lt (by omega) (by omega)).mpr (by omega)
      have em : ∀ w : Nat, (Int32.ofNat w) * Int32.ofNat (4 * c + i) = Int32.ofNat (w * (4 * c + i)) := fun w => u_mul _ _
      have em2 : ∀ w : Nat, (Int32.ofNat w) * Int32.ofNat (4 * c + i + 1) = Int32.ofNat (w * (4 * c + i) + w) := fun w => by rw [u_mul, Nat.mul_succ]
      show ok (l_222_21 (Int32.ofNat c) (Int32.ofNat (4 * c + i)) g) _
      unfold l_222_21
      rw [if_pos hlt, u_S]
      have p1 := m_221 (m := g) (q := 1101) (a := 40 * (4 * c + i)) (k := 40) (by rw [l1]; omega) (by rw [l1]; decide) (by decide)
      rw [show (40 : Int32) * Int32.ofNat (4 * c + i + 1) = Int32.ofNat (40 * (4 * c + i) + 40) from em2 40, show (40 : Int32) * Int32.ofNat (4 * c + i) = Int32.ofNat (40 * (4 * c + i)) from em 40, show p_221 g 1101 (Int32.ofNat (40 * (4 * c + i) + 40)) (Int32.ofNat (40 * (4 * c + i))) 40 = _ from p1]
      simp only [Option.bind_some]
      have f1' := shf f1
      generalize hg1 : w_fi g 1101 (40 * (4 * c + i)) 40 (fun j => g 1101 (40 * (4 * c + i) + 40 + j)) = g1 at f1' ⊢
      have g1q : ∀ q, q ≠ 1101 → g1 q = g q := fun q hq => by rw [← hg1]; exact funext fun b => w_fi_q hq
      rw [u_ix (by omega) (by decide), u_ix (by omega) (by decide), u_cl (by omega), u_cl (by omega)]
      simp only [w_gd, w_let]
      generalize hg2 : w_up g1 1102 (4 * c + i) (g1 1102 (4 * c + i + 1)) = g2
      have g2q : ∀ q, q ≠ 1101 → q ≠ 1102 → g2 q = g q := fun q h1 h2 => by rw [← hg2, ← g1q q h1]; exact funext fun b => w_up_q h2
      have g2a : g2 1101 = g1 1101 := by rw [← hg2]; exact funext fun b => w_up_q (by decide)
      have f2' : ∀ k, g2 1102 k = m 1102 (shx c (i + 1) k) := by
        intro k
        rw [← hg2]
        by_cases e : k = 4 * c + i
        · subst e
          rw [w_up_at, g1q 1102 (by decide), f2]
          have s1 : shx c i (4 * c + i + 1) = 4 * c + i + 1 := by unfold shx; rw [if_neg (by omega)]
          have s2 : shx c (i + 1) (4 * c + i) = 4 * c + i + 1 := by unfold shx; rw [if_pos (by omega)]
          rw [s1, s2]
        · rw [w_up_b e, g1q 1102 (by decide), f2]
          have : shx c (i + 1) k = shx c i k := by
            unfold shx
            by_cases h1 : 4 * c ≤ k ∧ k < 4 * c + i
            · rw [if_pos h1, if_pos (by omega)]
            · rw [if_neg h1, if_neg (by omega)]
          rw [this]
      have p3 := m_221 (m := g2) (q := 1103) (a := 234 * (4 * c + i)) (k := 234) (by rw [l3]; omega) (by rw [l3]; decide) (by decide)
      rw [show (234 : Int32) * Int32.ofNat (4 * c + i + 1) = Int32.ofNat (234 * (4 * c + i) + 234) from em2 234, show (234 : Int32) * Int32.ofNat (4 * c + i) = Int32.ofNat (234 * (4 * c + i)) from em 234, show p_221 g2 1103 (Int32.ofNat (234 * (4 * c + i) + 234)) (Int32.ofNat (234 * (4 * c + i))) 234 = _ from p3]
      simp only [Option.bind_some]
      have f3' := shf (g := g2) (m := m) (c := c) (r := 1103) (w := 234) (i := i) (fun k b hb => by rw [g2q 1103 (by decide) (by decide)]; exact f3 k b hb)
      generalize hg3 : w_fi g2 1103 (234 * (4 * c + i)) 234 (fun j => g2 1103 (234 * (4 * c + i) + 234 + j)) = g3 at f3' ⊢
      have g3q : ∀ q, q ≠ 1103 → g3 q = g2 q := fun q hq => by rw [← hg3]; exact funext fun b => w_fi_q hq
      have p4 := m_221 (m := g3) (q := 1104) (a := 234 * (4 * c + i)) (k := 234) (by rw [l4]; omega) (by rw [l4]; decide) (by decide)
      rw [show p_221 g3 1104 (Int32.ofNat (234 * (4 * c + i) + 234)) (Int32.ofNat (234 * (4 * c + i))) 234 = _ from p4]
      simp only [Option.bind_some]
      have f4' := shf (g := g3) (m := m) (c := c) (r := 1104) (w := 234) (i := i) (fun k b hb => by rw [g3q 1104 (by decide), g2q 1104 (by decide) (by decide)]; exact f4 k b hb)
      generalize hg4 : w_fi g3 1104 (234 * (4 * c + i)) 234 (fun j => g3 1104 (234 * (4 * c + i) + 234 + j)) = g4 at f4' ⊢
      have g4q : ∀ q, q ≠ 1104 → g4 q = g3 q := fun q hq => by rw [← hg4]; exact funext fun b => w_fi_q hq
      have p5 := m_221 (m := g4) (q := 1105) (a := 9 * (4 * c + i)) (k := 9) (by rw [l5]; omega) (by rw [l5]; decide) (by decide)
      rw [show (9 : Int32) * Int32.ofNat (4 * c + i + 1) = Int32.ofNat (9 * (4 * c + i) + 9) from em2 9, show (9 : Int32) * Int32.ofNat (4 * c + i) = Int32.ofNat (9 * (4 * c + i)) from em 9, show p_221 g4 1105 (Int32.ofNat (9 * (4 * c + i) + 9)) (Int32.ofNat (9 * (4 * c + i))) 9 = _ from p5]
      simp only [Option.bind_some]
      have f5' := shf (g := g4) (m := m) (c := c) (r := 1105) (w := 9) (i := i) (fun k b hb => by rw [g4q 1105 (by decide), g3q 1105 (by decide), g2q 1105 (by decide) (by decide)]; exact f5 k b hb)
      generalize hg5 : w_fi g4 1105 (9 * (4 * c + i)) 9 (fun j => g4 1105 (9 * (4 * c + i) + 9 + j)) = g5 at f5' ⊢
      have g5q : ∀ q, q ≠ 1105 → g5 q = g4 q := fun q hq => by rw [← hg5]; exact funext fun b => w_fi_q hq
      refine ok_some ⟨rfl, fun q hq => ?_, fun k b hb => ?_, fun k => ?_, fun k b hb => ?_, fun k b hb => ?_, f5'⟩
      · dsimp only
        rw [g5q q (fun h => hq (by omega)), g4q q (fun h => hq (by omega)), g3q q (fun h => hq (by omega)), g2q q (fun h => hq (by omega)) (fun h => hq (by omega)), hf q hq]
      · dsimp only
        rw [g5q 1101 (by decide), g4q 1101 (by decide), g3q 1101 (by decide), g2a]; exact f1' k b hb
      · dsimp only
        rw [g5q 1102 (by decide), g4q 1102 (by decide), g3q 1102 (by decide)]; exact f2' k
      · dsimp only
        rw [g5q 1103 (by decide), g4q 1103 (by decide)]; exact f3' k b hb
      · dsimp only
        rw [g5q 1104 (by decide)]; exact f4' k b hb
    · rintro ⟨i', g⟩ ⟨e1, hf, f1, f2, f3, f4, f5⟩
      simp only at e1 hf f1 f2 f3 f4 f5
      subst e1
      have hlt : ¬ Int32.ofNat (4 * c + 3) < (4 : Int32) * Int32.ofNat c + 4 - 1 := by
        have e : (4 : Int32) * Int32.ofNat c + 4 - 1 = Int32.ofNat (4 * c + 3) := by
          rw [show (4 : Int32) * Int32.ofNat c = Int32.ofNat (4 * c) by rw [show (4 : Int32) = Int32.ofNat 4 from rfl, u_mul]]
          have a1 := u_addL (4 * c) 4
          have a2 := u_subL (a := 4 * c + 4) (n := 1) (by omega)
          rw [a1, a2]; congr 1
        rw [e]; exact fun h => by have := (u_lt (by omega) (by omega)).mp h; omega
      show ok (l_222_21 (Int32.ofNat c) (Int32.ofNat (4 * c + 3)) g) _
      unfold l_222_21
      rw [if_neg hlt]
      exact ok_some ⟨hf, f1, f2, f3, f4, f5⟩
  exact lp
/-- a run is put at the end of the kept ones -/
theorem m_98 {km : Nat} {us : Int32} (hc : c < 16) (hkm : km < 4) (h0 : m 1100 c = Int32.ofNat km) (hT : mt m c T) (hus : m 1085 c = us) (hF : FH c 0 fe m) (h29 : m 1076 29 = 0) : ∃ m', q_222_98 m (Int32.ofNat c) = some m' ∧ w_fr (fun q => q = 1132 ∨ (1100 ≤ q ∧ q ≤ 1105)) m m' ∧ m' 1100 c = Int32.ofNat (km + 1) ∧ (∀ b, b ≠ c → m' 1100 b = m 1100 b) ∧ tm m' 1101 (40 * (4 * c + km)) T ∧ m' 1102 (4 * c + km) = Int32.ofNat T.length ∧ (∀ x, x < 26 → bt us x = true → mv m' 1103 (234 * (4 * c + km) + 9 * x) (fe x)) ∧ (∀ b, b < 234 → m' 1104 (234 * (4 * c + km) + b) = m 1093 (234 * c + b)) ∧ (∀ b, b < 9 → m' 1105 (9 * (4 * c + km) + b) = m 1094 (9 * c + b)) ∧ (∀ k b, k ≠ 4 * c + km → b < 40 → m' 1101 (40 * k + b) = m 1101 (40 * k + b)) ∧ (∀ k, k ≠ 4 * c + km → m' 1102 k = m 1102 k) ∧ (∀ k b, k ≠ 4 * c + km → b < 234 → m' 1103 (234 * k + b) = m 1103 (234 * k + b) ∧ m' 1104 (234 * k + b) = m 1104 (234 * k + b)) ∧ (∀ k b, k ≠ 4 * c + km → b < 9 → m' 1105 (9 * k + b) = m 1105 (9 * k + b)) := by
  have l1 : w_len 1101 = 2560 := by decide +kernel
  have l3 : w_len 1103 = 14976 := by decide +kernel
  have l5 : w_len 1105 = 576 := by decide +kernel
  have l4 : w_len 1094 = 144 := by decide +kernel
  have h40 := hT.1
  have e4 : (4 : Int32) * Int32.ofNat c = Int32.ofNat (4 * c) := by rw [show (4 : Int32) = Int32.ofNat 4 from rfl, u_mul]
  have em : ∀ w : Nat, (Int32.ofNat w) * Int32.ofNat (4 * c + km) = Int32.ofNat (w * (4 * c + km)) := fun w => u_mul _ _
  generalize hg1 : w_up m 1100 c (Int32.ofNat (km + 1)) = g1
  have g1q : ∀ q, q ≠ 1100 → g1 q = m q := fun q hq => by rw [← hg1]; exact funext fun b => w_up_q hq
  have T1 : mt g1 c T := ⟨h40, by rw [g1q 1080 (by decide)]; exact hT.2.1, fun j hj => by rw [g1q 1079 (by decide)]; exact hT.2.2 j hj⟩
  have p1 := s_215 (m := g1) (r := 1101) (o := 40 * (4 * c + km)) hc T1 (by rw [l1]; omega) (by rw [l1]; decide) (by decide) (by decide)
  generalize hg2 : w_fi g1 1101 (40 * (4 * c + km)) T.length (fun i => g1 1079 (40 * c + i)) = g2 at p1
  have g2q : ∀ q, q ≠ 1100 → q ≠ 1101 → g2 q = m q := fun q h1 h2 => by rw [← hg2, ← g1q q h1]; exact funext fun b => w_fi_q h2
  generalize hg3 : w_up g2 1102 (4 * c + km) (Int32.ofNat T.length) = g3
  have g3q : ∀ q, q ≠ 1100 → q ≠ 1101 → q ≠ 1102 → g3 q = m q := fun q h1 h2 h3 => by rw [← hg3, ← g2q q h1 h2]; exact funext fun b => w_up_q h3
  have g3o : ∀ q, q ≠ 1102 → g3 q = g2 q := fun q hq => by rw [← hg3]; exact funext fun b => w_up_q hq
  have F3 : FH c 0 fe g3 := fun g' a1 a2 a3 a4 a5 a6 a7 a8 a9 a10 => hF g' (by rw [a1, g3q 1076 (by decide) (by decide) (by decide)]) (by rw [a2, g3q 1076 (by decide) (by decide) (by decide)]) a3 (by rw [a4, g3q _ (by decide) (by decide) (by decide)]) (by rw [a5, g3q _ (by decide) (by decide) (by decide)]) (by rw [a6, g3q _ (by decide) (by decide) (by decide)]) (by rw [a7, g3q _ (by decide) (by decide) (by decide)]) (by rw [a8, g3q _ (by decide) (by decide) (by decide)]) (by rw [a9, g3q _ (by decide) (by decide) (by decide)]) (by rw [a10, g3q _ (by decide) (by decide) (by decide)])
  obtain ⟨g4, p4, v4, f4, b4⟩ := m_219 (m := g3) (c := c) (r := 1103) (o := 234 * (4 * c + km)) (us := us) (fe := fe) hc (by rw [g3q 1085 (by decide) (by decide) (by decide)]; exact hus) F3 (by rw [g3q 1076 (by decide) (by decide) (by decide)]; exact h29) (by rw [l3]; omega) (by rw [l3]; decide) (by decide)
  have p5 : w_lp (fun (s : Int32 × Hp) => l_222_141 (Int32.ofNat c) (Int32.ofNat (4 * c + km)) s.1 s.2) w_N (0, g4) = some (w_fi g4 1104 (234 * (4 * c + km)) 234 (fun i => g4 1093 (234 * c + i))) := by
    refine m_cp234 (r1 := 1093) (r2 := 1104) (a := 234 * c) (b := 234 * (4 * c + km)) (f := fun i g => l_222_141 (Int32.ofNat c) (Int32.ofNat (4 * c + km)) i g) (by decide) (fun i g hi => ?_) (fun g => ?_)
    · have hlt : Int32.ofNat i < 234 := (u_ltL (by omega) (by decide)).mpr hi
      have ea : (234 : Int32) * Int32.ofNat c + Int32.ofNat i = Int32.ofNat (234 * c + i) := by rw [show (234 : Int32) = Int32.ofNat 234 from rfl, u_mul, u_add]
      have eb : (234 : Int32) * Int32.ofNat (4 * c + km) + Int32.ofNat i = Int32.ofNat (234 * (4 * c + km) + i) := by rw [show (234 : Int32) = Int32.ofNat 234 from rfl, u_mul, u_add]
      simp (disch := omega) only [l_222_141, hlt, if_true, ea, eb, u_ix, u_cl, w_gd, w_let, u_S]
    · have hlt : ¬ Int32.ofNat 234 < 234 := by decide
      simp only [l_222_141, hlt, if_false]
  generalize hg5 : w_fi g4 1104 (234 * (4 * c + km)) 234 (fun i => g4 1093 (234 * c + i)) = g5 at p5
  have g5q : ∀ q, q ≠ 1104 → g5 q = g4 q := fun q hq => by rw [← hg5]; exact funext fun b => w_fi_q hq
  have p6 := m_193 (m := g5) (r := 1094) (r2 := 1105) (o := 9 * c) (o2 := 9 * (4 * c + km)) (by rw [l4]; omega) (by rw [l5]; omega) (by rw [l4]; decide) (by rw [l5]; decide) (Or.inl (by decide))
  generalize hg6 : w_fi g5 1105 (9 * (4 * c + km)) 9 (fun k => g5 1094 (9 * c + k)) = g6 at p6
  have g6q : ∀ q, q ≠ 1105 → g6 q = g5 q := fun q hq => by rw [← hg6]; exact funext fun b => w_fi_q hq
  have q4 : ∀ q, q ≠ 1100 → q ≠ 1101 → q ≠ 1102 → q ≠ 1103 → q ≠ 1132 → g4 q = m q := fun q h1 h2 h3 h4 h5 => by rw [f4 q (by omega), g3q q h1 h2 h3]
  have o4 : ∀ q, q ≠ 1103 → q ≠ 1132 → g4 q = g3 q := fun q h1 h2 => f4 q (by omega)
  refine ⟨g6, ?_, fun q hq => ?_, ?_, fun b hb => ?_, fun j hj => ?_, ?_, fun x hx hu => ?_, fun b hb => ?_, fun b hb => ?_, fun k b hk hb => ?_, fun k hk => ?_, fun k b hk hb => ⟨?_, ?_⟩, fun k b hk hb => ?_⟩
  · unfold q_222_98
    rw [u_ix hc (by decide), u_cl (by omega), h0, u_S, e4, u_add, show (40 : Int32) * Int32.ofNat (4 * c + km) = Int32.ofNat (40 * (4 * c + km)) from em 40]
    simp only [w_gd, w_let]
    rw [hg1, p1]
    simp only [Option.bind_some]
    rw [u_ix (by omega) (by decide), u_cl (by omega), g2q 1080 (by decide) (by decide), hT.2.1, hg3]
    simp only [w_gd]
    rw [show (234 : Int32) * Int32.ofNat (4 * c + km) = Int32.ofNat (234 * (4 * c + km)) from em 234, p4]
    simp only [Option.bind_some]
    rw [p5]
    simp only [Option.bind_some]
    rw [show (9 : Int32) * Int32.ofNat (4 * c + km) = Int32.ofNat (9 * (4 * c + km)) from em 9, u_9, p6]
    rfl
  · rw [g6q q (by omega), g5q q (by omega), q4 q (by omega) (by omega) (by omega) (by omega) (by omega)]
  · rw [g6q 1100 (by decide), g5q 1100 (by decide), o4 1100 (by decide) (by decide), g3o 1100 (by decide), ← hg2, w_fi_q (by decide), ← hg1]; exact w_up_at
  · rw [g6q 1100 (by decide), g5q 1100 (by decide), o4 1100 (by decide) (by decide), g3o 1100 (by decide), ← hg2, w_fi_q (by decide), ← hg1]; exact w_up_b hb
  · rw [g6q 1101 (by decide), g5q 1101 (by decide), o4 1101 (by decide) (by decide), g3o 1101 (by decide), ← hg2, w_fi_at (by omega) (by omega), Nat.add_sub_cancel_left, g1q 1079 (by decide)]
    exact hT.2.2 j hj
  · rw [g6q 1102 (by decide), g5q 1102 (by decide), o4 1102 (by decide) (by decide), ← hg3]; exact w_up_at
  · exact mv_fr (v4 x hx hu) (fun b _ _ => by rw [g6q 1103 (by decide), g5q 1103 (by decide)])
  · rw [g6q 1104 (by decide), ← hg5, w_fi_at (by omega) (by omega), Nat.add_sub_cancel_left, q4 1093 (by decide) (by decide) (by decide) (by decide) (by decide)]
  · rw [← hg6, w_fi_at (by omega) (by omega), Nat.add_sub_cancel_left, g5q 1094 (by decide), q4 1094 (by decide) (by decide) (by decide) (by decide) (by decide)]
  · rw [g6q 1101 (by decide), g5q 1101 (by decide), o4 1101 (by decide) (by decide), g3o 1101 (by decide), ← hg2, w_fi_b (by omega), g1q 1101 (by decide)]
  · rw [g6q 1102 (by decide), g5q 1102 (by decide), o4 1102 (by decide) (by decide), ← hg3, w_up_b hk, g2q 1102 (by decide) (by decide)]
  · rw [g6q 1103 (by decide), g5q 1103 (by decide), b4 _ (by omega), g3q 1103 (by decide) (by decide) (by decide)]
  · rw [g6q 1104 (by decide), ← hg5, w_fi_b (by omega), q4 1104 (by decide) (by decide) (by decide) (by decide) (by decide)]
  · rw [← hg6, w_fi_b (by omega), g5q 1105 (by decide), q4 1105 (by decide) (by decide) (by decide) (by decide) (by decide)]
end S9t
