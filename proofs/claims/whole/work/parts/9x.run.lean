/-! ===== the class runs a cell ===== -/
section S9x
variable {h h' m m' g : Hp} {T D L : List Int32} {c k n nw : Nat} {lang : Int32} {e : Nat → Option VL}
/-- the class's machine, up to what the cell gave -/
theorem c_runA {how : Int32} {r : Int32 × Int32 × PM} (hc : c < 16) (C : cel h m c T lang) (hW : ∀ i, i < 27 → cv h 45 i (e i)) (hD : drc h (64 * c + 65) D L) (hr : evl T lang (false, tld how D T L, h 40 1) e (0, h 40 0, []) = some r) : ∃ h', ((p_53 h (64 * c + 52 + 13) (64 * c + 52 + 1) how 1).bind fun vz7 =>
    (p_16 vz7 (64 * c + 52 + 3) 45).bind fun vz8 =>
    w_let (w_up vz8.2 (64 * c + 52) 11 vz8.1) fun hz9 =>
    w_let (w_up hz9 (64 * c + 52) 12 (hz9 28 3)) fun hz10 =>
    w_let (w_up hz10 0 12 ((hz10 0 12) + 1)) fun hz11 =>
    p_17 hz11 (64 * c + 52 + 3) (64 * c + 52 + 7)) = some h' ∧ (∀ i, i < 27 → cv h' (64 * c + 59) i (gvs (rdA T lang).2.2.2.2.2.1 (rdA T lang).2.2.2.2.2.2.1 r.2.2.1 i)) ∧ drc h' (64 * c + 65) T r.2.2.2.2.2.2 ∧ h' 40 0 = r.2.2.2.2.2.1 ∧ h' 40 1 = h 40 1 ∧ h' (64 * c + 52) 11 = r.1 ∧ h' (64 * c + 52) 12 = r.2.1 ∧ h' 0 12 = h 0 12 + 1 ∧ (∀ b, b ≠ 12 → h' 0 b = h 0 b) ∧ (∀ b, b ≠ 11 → b ≠ 12 → h' (64 * c + 52) b = h (64 * c + 52) b) ∧ w_fr (fun z => z = 0 ∨ xP z ∨ z = 40 ∨ z = 64 * c + 52 ∨ z = 64 * c + 60 ∨ z = 64 * c + 61 ∨ z = 64 * c + 65 ∨ z = 64 * c + 66 ∨ z = 64 * c + 67 ∨ z = 64 * c + 68) h h' := by
  obtain ⟨c1, c2, c3, c4, -⟩ := C
  obtain ⟨h1, a1, a2, a3, a4, a5, a6⟩ := c_53 (x3 := how) (x4 := 1) hc c3 hD (Or.inr rfl)
  have f1 : ∀ z, z ≠ 40 → z ≠ 64 * c + 65 → z ≠ 64 * c + 66 → z ≠ 64 * c + 67 → h1 z = h z := fun z n1 n2 n3 n4 => a4 z (by omega)
  obtain ⟨h2, b1, b2, b3, b4, b5, b6, b7⟩ := c_ev (h := h1) (R := 64 * c + 65) (p := (false, tld how D T L, h 40 1)) (q1 := 64 * c + 55) (q2 := 45) (dr := (0, h 40 0, [])) (e := e) (r := r) ⟨by omega, by omega⟩ (by decide) c3.1 c1 c2 (cd_fr c4 (f1 _ (by omega) (by omega) (by omega) (by omega)) (f1 _ (by omega) (by omega) (by omega) (by omega)) (f1 _ (by omega) (by omega) (by omega) (by omega)) (f1 _ (by omega) (by omega) (by omega) (by omega))) (fun i hi => cv_fr (hW i hi) (f1 _ (by omega) (by omega) (by omega) (by omega)) (f1 _ (by omega) (by omega) (by omega) (by omega))) a2 hr
  have xPn : ∀ z, 40 < z → ¬ xP z := fun z hz hx => by unfold xP at hx; omega
  have xP0 : ¬ xP 0 := fun hx => by unfold xP at hx; omega
  have f2 : ∀ z, 40 < z → z ≠ 64 * c + 65 → z ≠ 64 * c + 66 → z ≠ 64 * c + 67 → z ≠ 64 * c + 68 → h2 z = h z := fun z n0 n1 n2 n3 n4 => by
    rw [b5 z (fun hh => by rcases hh with hh | hh | hh | hh; exact xPn z n0 hh; omega; omega; omega), f1 z (by omega) n1 n2 n3]
  have f20 : h2 0 = h 0 := by
    rw [b5 0 (fun hh => by rcases hh with hh | hh | hh | hh; exact xP0 hh; omega; omega; omega), f1 0 (by omega) (by omega) (by omega) (by omega)]
  generalize hg : w_up (w_up (w_up h2 (64 * c + 52) 11 r.1) (64 * c + 52) 12 r.2.1) 0 12 (h 0 12 + 1) = g
  have gq : ∀ z, z ≠ 0 → z ≠ 64 * c + 52 → g z = h2 z := fun z n1 n2 => by rw [← hg]; exact funext fun b => by rw [w_up_q n1, w_up_q n2, w_up_q n2]
  have g0 : ∀ b, b ≠ 12 → g 0 b = h 0 b := fun b hb => by rw [← hg, w_up_b hb, w_up_q (by omega), w_up_q (by omega), f20]
  have g12 : g 0 12 = h 0 12 + 1 := by rw [← hg]; exact w_up_at
  have gc : ∀ b, b ≠ 11 → b ≠ 12 → g (64 * c + 52) b = h (64 * c + 52) b := fun b n1 n2 => by rw [← hg, w_up_q (by omega), w_up_b n2, w_up_b n1, f2 _ (by omega) (by omega) (by omega) (by omega) (by omega)]
  have gc11 : g (64 * c + 52) 11 = r.1 := by rw [← hg, w_up_q (by omega), w_up_b (by decide), w_up_at]
  have gc12 : g (64 * c + 52) 12 = r.2.1 := by rw [← hg, w_up_q (by omega), w_up_at]
  obtain ⟨k1, k2, k3, k4, k5, k6, k7⟩ := c4
  have g55 : g (64 * c + 55) = h (64 * c + 55) := by rw [gq _ (by omega) (by omega), f2 _ (by omega) (by omega) (by omega) (by omega) (by omega)]
  obtain ⟨h3, d1, d2, d3⟩ := c_17 (h := g) (q1 := 64 * c + 55) (q2 := 64 * c + 59) (df := (rdA T lang).2.2.2.2.2.1) (ch := (rdA T lang).2.2.2.2.2.2.1) (e := r.2.2.1) (by omega) (by omega) ⟨by omega, by omega⟩ ((congrFun g55 5).trans k5) ((congrFun g55 6).trans k6) (fun i hi => cv_fr (b2 i hi) (gq _ (by omega) (by omega)) (gq _ (by omega) (by omega)))
  have f3 : ∀ z, z ≠ 64 * c + 60 → z ≠ 64 * c + 61 → h3 z = g z := fun z n1 n2 => d3 z (by omega)
  refine ⟨h3, ?_, d2, ?_, ?_, ?_, ?_, ?_, ?_, fun b hb => ?_, fun b n1 n2 => ?_, fun z hz => ?_⟩
  · rw [show 64 * c + 52 + 13 = 64 * c + 65 by omega, show 64 * c + 52 + 1 = 64 * c + 53 by omega, show 64 * c + 52 + 3 = 64 * c + 55 by omega, show 64 * c + 52 + 7 = 64 * c + 59 by omega, a1]
    simp only [Option.bind_some]
    rw [b1]
    simp only [Option.bind_some, w_let]
    rw [show (w_up h2 (64 * c + 52) 11 r.1) 28 3 = r.2.1 by rw [w_up_q (by omega)]; exact b4, show (w_up (w_up h2 (64 * c + 52) 11 r.1) (64 * c + 52) 12 r.2.1) 0 12 = h 0 12 by rw [w_up_q (by omega), w_up_q (by omega), f20], hg]
    exact d1
  · obtain ⟨e1, e2⟩ := b3
    obtain ⟨-, -, -, -, -, x6, -, -, -, -, -, x12, x13, -⟩ := e1
    have hp1 : (false, tld how D T L, h 40 1).1 = false := rfl
    have sm : ∀ z, z ≠ 0 → z ≠ 64 * c + 52 → z ≠ 64 * c + 60 → z ≠ 64 * c + 61 → h3 z = h2 z := fun z n1 n2 n3 n4 => by rw [f3 z n3 n4, gq z n1 n2]
    refine ⟨?_, by omega, ?_, fun i hi => ?_⟩
    · have t := a3 rfl
      refine tx_fr2 t ?_ ?_
      · rw [sm _ (by omega) (by omega) (by omega) (by omega)]
        exact b5 _ (fun hh => by rcases hh with hh | hh | hh | hh; exact xPn _ (by omega) hh; omega; omega; omega)
      · rw [sm _ (by omega) (by omega) (by omega) (by omega)]
        exact b5 _ (fun hh => by rcases hh with hh | hh | hh | hh; exact xPn _ (by omega) hh; omega; omega; omega)
    · rw [sm _ (by omega) (by omega) (by omega) (by omega), e2 rfl, x12]
    · rw [sm _ (by omega) (by omega) (by omega) (by omega)]
      exact (x13 rfl).1 i (by omega)
  · rw [f3 _ (by omega) (by omega), gq _ (by omega) (by omega)]
    exact b3.1.2.2.2.2.2.2.2.2.2.1
  · rw [f3 _ (by omega) (by omega), gq _ (by omega) (by omega), b6 1 (by decide) (by decide)]
    exact a5 1 (by decide)
  · rw [f3 _ (by omega) (by omega)]; exact gc11
  · rw [f3 _ (by omega) (by omega)]; exact gc12
  · rw [f3 _ (by omega) (by omega)]; exact g12
  · rw [f3 _ (by omega) (by omega)]; exact g0 b hb
  · rw [f3 _ (by omega) (by omega)]; exact gc b n1 n2
  · rw [f3 z (fun h => hz (by omega)) (fun h => hz (by omega)), gq z (fun h => hz (by omega)) (fun h => hz (by omega)), b5 z (fun hh => hz (by rcases hh with hh | hh | hh | hh; exact Or.inr (Or.inl hh); omega; omega; omega)), f1 z (fun h => hz (by omega)) (fun h => hz (by omega)) (fun h => hz (by omega)) (fun h => hz (by omega))]
/-- the class enters what ran -/
theorem c_86 {n4 : Nat} (hc : c < 16) (hw : h 4 7 = Int32.ofNat nw) (h4 : nw ≤ 4) : ∃ h', q_139_86 h (Int32.ofNat c) (64 * c + 52) n4 = some ((if n4 = 0 then 0 else 1), h') ∧ h' 0 14 = h 0 14 + 1 ∧ h' 0 17 = 0 ∧ (∀ b, b ≠ 14 → b ≠ 17 → h' 0 b = h 0 b) ∧ h' (64 * c + 52) 15 = 1 ∧ h' (64 * c + 52) 14 = h 0 14 + 1 ∧ h' (64 * c + 52) 13 = h 14 c ∧ (∀ b, b < 13 ∨ 15 < b → h' (64 * c + 52) b = h (64 * c + 52) b) ∧ (∀ w, w < nw → h' (64 * c + 79) w = h 8 w) ∧ w_fr (fun z => z = 0 ∨ z = 64 * c + 52 ∨ z = 64 * c + 79) h h' := by
  unfold q_139_86
  rw [u_ix hc (by decide), u_cl (by omega)]
  simp only [w_let, w_gd]
  generalize hg : w_up h 0 14 (h 0 14 + 1) = g
  have gq : ∀ z, z ≠ 0 → g z = h z := fun z n1 => by rw [← hg]; exact funext fun b => w_up_q n1
  have gb : ∀ b, b ≠ 14 → g 0 b = h 0 b := fun b hb => by rw [← hg]; exact w_up_b hb
  have g14 : g 0 14 = h 0 14 + 1 := by rw [← hg]; exact w_up_at
  obtain ⟨f, p, p1, p2, p3, p4, p5, p6⟩ := c_4 (h := g) (q := 64 * c + 52) (x1 := g 0 14) (x2 := g 14 c) (nw := nw) (by rw [gq 4 (by decide)]; exact hw) h4 (by omega)
  rw [p]
  simp only [Option.bind_some]
  have f0 : f 0 = g 0 := p6 0 (by omega)
  refine ⟨w_up f 0 17 0, by by_cases e : n4 = 0 <;> simp [e], ?_, w_up_at, fun b n1 n2 => ?_, ?_, ?_, ?_, fun b hb => ?_, fun w hw => ?_, fun z hz => ?_⟩
  · rw [w_up_b (by decide), f0]; exact g14
  · rw [w_up_b n2, f0]; exact gb b n1
  · rw [w_up_q (by omega)]; exact p1
  · rw [w_up_q (by omega), p2]; exact g14
  · rw [w_up_q (by omega), p3, gq 14 (by decide)]
  · rw [w_up_q (by omega), p4 b hb, gq _ (by omega)]
  · rw [w_up_q (by omega), show 64 * c + 79 = 64 * c + 52 + 27 by omega, p5 w hw, gq 8 (by decide)]
  · rw [show (w_up f 0 17 0) z = f z from funext fun b => w_up_q (by omega), p6 z (by omega), gq z (by omega)]
end S9x
