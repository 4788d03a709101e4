/-! ===== the model's statements: where one begins ===== -/
def SB (T : List Int32) (c qr : Nat) (p : DP) (e fe : Nat → Option VL) (us : Int32) (m : Hp) (a : Nat) (kn : Int32) (d : DR) : Prop := ld T m ∧ FG c qr fe m ∧ m 1076 74 = kn ∧ (∀ i, i < 26 → (bt us i = true ∨ bt kn i = true) → (bt kn i = true → (∃ v, e i = some v) ∧ mv m 1131 (9 * i) (e i)) ∧ (¬ bt kn i = true → e i = fe i)) ∧ m 1076 67 = Int32.ofNat a ∧ m 1076 75 = 0 ∧ m 1076 76 < 0 ∧ dm m c p d ∧ mv m qr (9 * c) (e 26)
section S97
variable {T : List Int32} {c qr : Nat} {p : DP} {e fe : Nat → Option VL} {us kn : Int32} {m m' : Hp} {d : DR}
theorem mv_fr {r o : Nat} {v : Option VL} (H : mv m r o v) (h : ∀ b, o ≤ b → b < o + 9 → m' r b = m r b) : mv m' r o v := by
  cases v with
  | none => exact (h o (Nat.le_refl _) (by omega)).trans H
  | some v =>
    cases v with
    | inl n => exact ⟨(h _ (by omega) (by omega)).trans H.1, (h _ (by omega) (by omega)).trans H.2⟩
    | inr l =>
      have h8 := H.1
      exact ⟨H.1, (h _ (by omega) (by omega)).trans H.2.1, fun k hk => (h _ (by omega) (by omega)).trans (H.2.2 k hk)⟩
theorem EVB_SB {a : Nat} (hq : qres qr) (H : SB T c qr p e fe us m a kn d) : EVB T c e fe (fun i => bt us i = true ∨ bt kn i = true) m := by
  obtain ⟨h1, h2, h3, h4, -⟩ := H
  refine ⟨h1, FE_FG hq h2, fun i hi hn => ?_⟩
  rw [h3]
  exact h4 i hi hn
/-- the tail of a statement in error -/
theorem q65_err {x2 x3 x4 : Int32} {m1 : Hp} (h1 : p_207 m = some m1) (h2 : ¬ m1 1076 75 = 0) : q_208_65 m qr x2 x3 x4 = some (.inl (w_up m1 1076 67 (m1 1076 67 + 1))) := by
  have e75 : w_up m1 1076 67 (m1 1076 67 + 1) 1076 75 = m1 1076 75 := w_up_b (by decide)
  unfold q_208_65
  rw [h1]
  simp only [Option.bind_some, w_let]
  rw [e75, if_neg h2]
  unfold q_208_81 q_208_106
  rw [e75, if_neg h2, if_neg h2]
/-- reckoning where there is an error already -/
theorem m_207e (h : ¬ m 1076 75 = 0) : p_207 m = some (w_up (w_up m 1076 70 0) 1076 72 0) := by
  unfold p_207
  simp only [w_let]
  have e75 : w_up (w_up m 1076 70 0) 1076 72 0 1076 75 = m 1076 75 := by rw [w_up_b (by decide), w_up_b (by decide)]
  have hst : l_207_8 1 (w_up (w_up m 1076 70 0) 1076 72 0) = some (.inr (w_up (w_up m 1076 70 0) 1076 72 0)) := by
    unfold l_207_8
    rw [if_neg (by rw [e75]; exact h)]
  exact u_once (by decide) hst
theorem w_len_qr (hq : qres qr) : w_len qr = 144 := by rcases hq with rfl | rfl <;> decide +kernel
/-- the result is stored -/
theorem st_res {a : Nat} {v : VL} {x3 : Int32} (hq : qres qr) (hc : c < 16) (H : SB T c qr p e fe us m a kn d) (hv : mv m 1130 0 (some v)) : ∃ m', q_208_81 m qr 0 x3 = some (.inl m') ∧ evg c qr m m' ∧ SB T c qr p (eup e 26 (some v)) fe us m' a kn d := by
  obtain ⟨h1, h2, h3, h4, h5, h6, h7, h8, h9⟩ := H
  have hne : qr ≠ 1130 ∧ qr ≠ 1076 ∧ qr ≠ 1127 ∧ qr ≠ 1131 ∧ qr ≠ 1095 ∧ qr ≠ 1099 := by unfold qres at hq; omega
  have k77 : m 1076 77 = Int32.ofNat c := h8.2.1
  have cp := m_193 (m := m) (r := 1130) (r2 := qr) (o := 0) (o2 := 9 * c) (by rw [w_len_1130]; omega) (by rw [w_len_qr hq]; omega) (by rw [w_len_1130]; omega) (by rw [w_len_qr hq]; omega) (Or.inl (fun h => hne.1 h.symm))
  have hf : evg c qr m (w_fi m qr (9 * c) 9 (fun k => m 1130 (0 + k))) := by
    refine ⟨fun q hq2 => funext fun b => w_fi_q (fun h => hq2 (Or.inr (Or.inr h))), fun b _ _ _ _ _ _ _ _ _ => w_fi_q (fun h => hne.2.1 h.symm), fun b _ => w_fi_q (fun h => hne.2.2.2.2.1 h.symm), fun b hb => w_fi_b (by omega)⟩
  have fq : ∀ q, q ≠ qr → w_fi m qr (9 * c) 9 (fun k => m 1130 (0 + k)) q = m q := fun q hq => funext fun b => w_fi_q hq
  refine ⟨_, ?_, hf, ⟨⟨h1.1, ?_, ?_⟩, FG_evg h2 hf, ?_, ?_, ?_, ?_, ?_, ?_, ?_⟩⟩
  · unfold q_208_81 q_208_106
    rw [if_pos h6, if_pos rfl, if_pos h6, k77, u_9]
    rw [show p_193 m 1130 0 qr (Int32.ofNat (9 * c)) = _ from cp]
    rfl
  · rw [fq 1076 (fun h => hne.2.1 h.symm)]; exact h1.2.1
  · rw [fq 1127 (fun h => hne.2.2.1 h.symm)]; exact h1.2.2
  · rw [fq 1076 (fun h => hne.2.1 h.symm)]; exact h3
  · intro i hi hn
    have ee : eup e 26 (some v) i = e i := by unfold eup; rw [if_neg (by omega)]
    rw [ee]
    exact ⟨fun hb => ⟨((h4 i hi hn).1 hb).1, mv_fr ((h4 i hi hn).1 hb).2 (fun b _ _ => by rw [fq 1131 (fun h => hne.2.2.2.1 h.symm)])⟩, (h4 i hi hn).2⟩
  · rw [fq 1076 (fun h => hne.2.1 h.symm)]; exact h5
  · rw [fq 1076 (fun h => hne.2.1 h.symm)]; exact h6
  · rw [fq 1076 (fun h => hne.2.1 h.symm)]; exact h7
  · exact dm_fr h8 (fq _ (fun h => hne.2.2.2.2.1 h.symm)) (fq _ (fun h => hne.2.2.2.2.2 h.symm)) (fun b _ _ _ _ _ => by rw [fq 1076 (fun h => hne.2.1 h.symm)])
  · have ee : eup e 26 (some v) 26 = some v := by unfold eup; rw [if_pos rfl]
    rw [ee]
    exact mv_cp hv
/-- a name is defined -/
theorem st_def {a x : Nat} {v : VL} {x2 : Int32} (hq : qres qr) (hx : x < 26) (hx2 : ¬ x2 = 0) (H : SB T c qr p e fe us m a kn d) (hv : mv m 1130 0 (some v)) : ∃ m', q_208_81 m qr x2 (Int32.ofNat (97 + x)) = some (.inl m') ∧ evg c qr m m' ∧ SB T c qr p (eup e x (some v)) fe us m' a (kn ||| (1 <<< (Int32.ofNat x &&& 31))) d := by
  obtain ⟨h1, h2, h3, h4, h5, h6, h7, h8, h9⟩ := H
  have hne : qr ≠ 1130 ∧ qr ≠ 1076 ∧ qr ≠ 1127 ∧ qr ≠ 1131 ∧ qr ≠ 1095 ∧ qr ≠ 1099 := by unfold qres at hq; omega
  have cp := m_193 (m := m) (r := 1130) (r2 := 1131) (o := 0) (o2 := 9 * x) (by rw [w_len_1130]; omega) (by rw [w_len_1131]; omega) (by rw [w_len_1130]; omega) (by rw [w_len_1131]; omega) (Or.inl (by decide))
  generalize hg : w_fi m 1131 (9 * x) 9 (fun k => m 1130 (0 + k)) = g at cp
  have gq : ∀ q, q ≠ 1131 → g q = m q := fun q hq => by subst hg; exact funext fun b => w_fi_q hq
  have gv : mv g 1131 (9 * x) (some v) := by subst hg; exact mv_cp hv
  have gb : ∀ b, b < 9 * x ∨ 9 * x + 9 ≤ b → g 1131 b = m 1131 b := fun b hb => by subst hg; exact w_fi_b (by omega)
  generalize hg2 : w_up g 1076 74 (kn ||| (1 <<< (Int32.ofNat x &&& 31))) = g2
  have g2q : ∀ q, q ≠ 1131 → q ≠ 1076 → g2 q = m q := fun q n1 n2 => by subst hg2; exact funext fun b => by rw [w_up_q n2, gq q n1]
  have g2l : g2 1131 = g 1131 := by subst hg2; exact funext fun b => w_up_q (by decide)
  have g2b : ∀ b, b ≠ 74 → g2 1076 b = m 1076 b := fun b hb => by subst hg2; rw [w_up_b hb, gq 1076 (by decide)]
  have g274 : g2 1076 74 = kn ||| (1 <<< (Int32.ofNat x &&& 31)) := by subst hg2; exact w_up_at
  have e97 : Int32.ofNat (97 + x) - 97 = Int32.ofNat x := by
    have := u_subL (a := 97 + x) (n := 97) (by omega)
    rw [show 97 + x - 97 = x by omega] at this
    exact this
  have hf : evg c qr m g2 := by
    refine ⟨fun q hq2 => ?_, fun b _ _ _ h4 _ _ _ _ _ => g2b b h4, fun b _ => ?_, fun b hb => ?_⟩
    · refine g2q q (fun h => hq2 (Or.inr (Or.inl h))) (fun h => hq2 (Or.inl (Or.inl h)))
    · rw [g2q 1095 (by decide) (by decide)]
    · rw [g2q qr hne.2.2.2.1 hne.2.1]
  have knb : ∀ i, i < 26 → bt (kn ||| (1 <<< (Int32.ofNat x &&& 31))) i = (bt kn i || decide (i = x)) := fun i hi => by rw [bt_or, bt_one (by omega)]
  refine ⟨g2, ?_, hf, ⟨⟨h1.1, ?_, ?_⟩, FG_evg h2 hf, g274, ?_, ?_, ?_, ?_, ?_, ?_⟩⟩
  · unfold q_208_81
    rw [if_pos h6, if_neg hx2, e97, u_9]
    rw [show p_193 m 1130 0 1131 (Int32.ofNat (9 * x)) = _ from cp]
    simp only [Option.bind_some, w_let]
    rw [gq 1076 (by decide), h3, s_162 hx, hg2]
  · rw [g2b 66 (by decide)]; exact h1.2.1
  · rw [g2q 1127 (by decide) (by decide)]; exact h1.2.2
  · intro i hi hn
    rw [knb i hi] at hn ⊢
    by_cases ex : i = x
    · subst ex
      have ee : eup e i (some v) i = some v := by unfold eup; rw [if_pos rfl]
      rw [ee]
      refine ⟨fun _ => ⟨⟨v, rfl⟩, mv_fr gv (fun b _ _ => by rw [g2l])⟩, fun hh => absurd (by simp) hh⟩
    · have ee : eup e x (some v) i = e i := by unfold eup; rw [if_neg ex]
      rw [ee, decide_eq_false ex, Bool.or_false]
      rw [decide_eq_false ex, Bool.or_false] at hn
      refine ⟨fun hb => ⟨((h4 i hi hn).1 hb).1, mv_fr ((h4 i hi hn).1 hb).2 (fun b b1 b2 => ?_)⟩, (h4 i hi hn).2⟩
      rw [g2l]
      exact gb b (by omega)
  · rw [g2b 67 (by decide)]; exact h5
  · rw [g2b 75 (by decide)]; exact h6
  · rw [g2b 76 (by decide)]; exact h7
  · have D := h8
    unfold dm at D ⊢
    rw [g2q 1095 (by decide) (by decide), g2q 1099 (by decide) (by decide), g2b 77 (by decide), g2b 30 (by decide), g2b 28 (by decide), g2b 29 (by decide), g2b 31 (by decide), g2b 32 (by decide)]
    exact D
  · have ee : eup e x (some v) 26 = e 26 := by unfold eup; rw [if_neg (by omega)]
    rw [ee]
    exact mv_fr h9 (fun b _ _ => by rw [g2q qr hne.2.2.2.1 hne.2.1])
end S97
