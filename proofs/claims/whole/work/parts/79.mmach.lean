/-! ===== the model's machine: operators are applied ===== -/
/-- what applying leaves -/
def apf (m m' : Hp) : Prop := w_fr (fun q => q = 1130 ∨ q = 1076) m m' ∧ ∀ b, b ≠ 70 → b ≠ 72 → b ≠ 75 → b ≠ 76 → m' 1076 b = m 1076 b
section S79
variable {m m' : Hp} {p : DP}
theorem mk_fr {O : List (Int32 × Nat)} (H : mk m O) (e1 : m' 1128 = m 1128) (e2 : m' 1129 = m 1129) : mk m' O := by
  induction O with
  | nil => trivial
  | cons a O ih => exact ⟨by rw [e1]; exact H.1, by rw [e2]; exact H.2.1, H.2.2.1, ih H.2.2.2⟩
/-- # is applied -/
theorem m_200n {O : List (Int32 × Nat)} {c : Nat} {V : List VL} {e : Nat → Option VL} {d : DR} {r : Int32 × PM} (HO : mk m ((35, c) :: O)) (hO : O.length < 80) (h70 : m 1076 70 = Int32.ofNat (O.length + 1)) (HV : mvs m V) (hV : V.length ≤ 27) (h72 : m 1076 72 = Int32.ofNat V.length) (h75 : m 1076 75 = 0) (h76 : m 1076 76 < 0) (hx : xs p 8 0 (e, V, d) = some r) : ∃ m', p_200 m = some m' ∧ m' 1076 70 = Int32.ofNat O.length ∧ mk m' O ∧ apf m m' ∧ (r.1 = 0 → mvs m' r.2.2.1 ∧ m' 1076 72 = Int32.ofNat r.2.2.1.length ∧ m' 1076 75 = 0 ∧ m' 1076 76 < 0) ∧ (¬ r.1 = 0 → m' 1076 75 = r.1 ∧ m' 1076 76 = m 1076 80) := by
  have hx2 : (match ((e, V, d) : PM).2.1 with
    | .inr l :: st => some (0, e, .inl (Int32.ofNat l.length) :: st, d)
    | .inl _ :: _ => some (2, e, V, d)
    | [] => none : Option (Int32 × PM)) = some r := hx
  have e70 : m 1076 70 - 1 = Int32.ofNat O.length := by
    rw [h70]
    have := u_subL (a := O.length + 1) (n := 1) (by omega)
    exact this
  obtain ⟨o1, o2, o3, o4⟩ := HO
  unfold p_200
  simp only [w_let, e70]
  generalize hg : w_up m 1076 70 (Int32.ofNat O.length) = g
  have gq : ∀ q, q ≠ 1076 → g q = m q := fun q hq => by subst hg; exact funext fun b => w_up_q hq
  have gb : ∀ b, b ≠ 70 → g 1076 b = m 1076 b := fun b hb => by subst hg; exact w_up_b hb
  have g70 : g 1076 70 = Int32.ofNat O.length := by subst hg; exact w_up_at
  rw [g70, u_cl (by omega), u_ix hO (by decide), gq 1128 (by decide), o1]
  simp only [w_gd, if_true]
  have gO : mk g O := mk_fr o4 (gq _ (by decide)) (gq _ (by decide))
  have ga : apf m g := ⟨fun q hq => gq q (fun x => hq (Or.inr x)), fun b h1 _ _ _ => gb b h1⟩
  cases V with
  | nil =>
    have hx3 : (none : Option (Int32 × PM)) = some r := hx2
    cases hx3
  | cons v st =>
    have hl : st.length + 1 ≤ 27 := hV
    have e72 : g 1076 72 - 1 = Int32.ofNat st.length := by
      rw [gb 72 (by decide), h72]
      have := u_subL (a := st.length + 1) (n := 1) (by omega)
      exact this
    have HV1 : mv g 1130 (9 * st.length) (some v) := mv_b HV.1 (fun b _ _ => by rw [gq 1130 (by decide)])
    obtain ⟨n1, n2⟩ := m_199 (by omega) HV1
    rw [e72, n1, n2]
    simp only [w_gd]
    cases v with
    | inl n =>
      have hx3 : some ((2 : Int32), e, .inl n :: st, d) = some r := hx2
      cases hx3
      rw [if_neg (show ¬ ofB (vNum (some (Sum.inl n : VL))) = 0 from (by decide : ¬ ofB true = 0))]
      obtain ⟨m', a1, a2, a3, a4, a5⟩ := m_195 (m := g) (e := 2) (x := g 1076 80) (by rw [gb 75 (by decide)]; exact h75) (by rw [gb 76 (by decide)]; exact h76) (by decide)
      rw [a1]
      refine ⟨m', rfl, ?_, mk_fr gO (a4 _ (by decide)) (a4 _ (by decide)), ⟨fun q hq => ?_, fun b h1 h2 h3 h4 => ?_⟩, fun h => absurd h (show ¬ (2 : Int32) = 0 by decide), fun _ => ⟨a2, ?_⟩⟩
      · rw [a5 70 (by decide) (by decide)]; exact g70
      · rw [a4 q (fun x => hq (Or.inr x))]; exact ga.1 q hq
      · rw [a5 b h3 h4]; exact gb b h1
      · rw [a3, gb 80 (by decide)]
    | inr l =>
      have hx3 : some ((0 : Int32), e, .inl (Int32.ofNat l.length) :: st, d) = some r := hx2
      cases hx3
      rw [if_pos (by rfl)]
      have e9 : Int32.ofNat (9 * st.length) + 1 = Int32.ofNat (9 * st.length + 1) := u_S _
      simp (disch := omega) only [u_9, e9, u_ix, u_cl, w_gd, w_up_q, e72, HV1.2.1]
      refine ⟨_, rfl, ?_, ?_, ⟨fun q hq => funext fun b => ?_, fun b h1 h2 h3 h4 => ?_⟩, fun _ => ⟨⟨⟨?_, ?_⟩, mvs_b HV.2 (fun b hb => ?_)⟩, ?_, ?_, ?_⟩, fun h => absurd trivial h⟩
      · simp (disch := omega) only [w_up_q]; exact g70
      · exact mk_fr gO (funext fun b => by simp (disch := omega) only [w_up_q]) (funext fun b => by simp (disch := omega) only [w_up_q])
      · have n1 : q ≠ 1130 := fun x => hq (Or.inl x)
        simp (disch := omega) only [w_up_q]
        rw [ga.1 q hq]
      · simp (disch := omega) only [w_up_q]; exact gb b h1
      · exact w_up_at
      · rw [w_up_b (by omega), w_up_at]
      · rw [w_up_b (by omega), w_up_b (by omega), gq 1130 (by decide)]
      · simp (disch := omega) only [w_up_q]; rw [gb 72 (by decide)]; exact h72
      · simp (disch := omega) only [w_up_q]; rw [gb 75 (by decide)]; exact h75
      · simp (disch := omega) only [w_up_q]; rw [gb 76 (by decide)]; exact h76
end S79
