/-! ===== the model's machine: an item is taken ===== -/
section S81
variable {m m' : Hp} {p : DP}
theorem m_205 {q dg : Nat} {V : List VL} {e : Nat → Option VL} {d : DR} {r : Int32 × PM} (hq : q + 1 < 40) (h67 : m 1076 67 = Int32.ofNat q) (hdg : m 1127 (q + 1) = Int32.ofNat (48 + dg)) (hd : dg < 10) (HV : mvs m V) (hV : V.length ≤ 27) (h72 : m 1076 72 = Int32.ofNat V.length) (h75 : m 1076 75 = 0) (h76 : m 1076 76 < 0) (hx : xs p 7 (Int32.ofNat dg) (e, V, d) = some r) : ∃ m', p_205 m = some m' ∧ m' 1076 67 = Int32.ofNat (q + 2) ∧ w_fr (fun q => q = 1130 ∨ q = 1076) m m' ∧ (∀ b, b ≠ 67 → b ≠ 75 → b ≠ 76 → m' 1076 b = m 1076 b) ∧ (r.1 = 0 → mvs m' r.2.2.1 ∧ m' 1076 72 = Int32.ofNat r.2.2.1.length ∧ m' 1076 75 = 0 ∧ m' 1076 76 < 0) ∧ (¬ r.1 = 0 → m' 1076 75 = r.1 ∧ m' 1076 76 = m 1076 80) := by
  have hx2 : (match ((e, V, d) : PM).2.1 with
    | .inr l :: st => if (Int32.ofNat dg).toNatClampNeg < l.length then some (0, e, .inl (l.getD (Int32.ofNat dg).toNatClampNeg 0) :: st, d) else some (3, e, V, d)
    | .inl _ :: _ => some (2, e, V, d)
    | [] => none : Option (Int32 × PM)) = some r := hx
  rw [u_cl (by omega)] at hx2
  have e2 : Int32.ofNat q + 2 = Int32.ofNat (q + 2) := u_addL q 2
  unfold p_205
  simp only [w_let, h67, u_S, e2]
  rw [u_ix hq (by decide), u_cl (by omega), hdg]
  simp only [w_gd]
  have ed : Int32.ofNat (48 + dg) - 48 = Int32.ofNat dg := by
    have := u_subL (a := 48 + dg) (n := 48) (by omega)
    rw [show 48 + dg - 48 = dg by omega] at this
    exact this
  rw [ed]
  generalize hg : w_up m 1076 67 (Int32.ofNat (q + 2)) = g
  have gq : ∀ q, q ≠ 1076 → g q = m q := fun q hq => by subst hg; exact funext fun b => w_up_q hq
  have gb : ∀ b, b ≠ 67 → g 1076 b = m 1076 b := fun b hb => by subst hg; exact w_up_b hb
  have g67 : g 1076 67 = Int32.ofNat (q + 2) := by subst hg; exact w_up_at
  have er : ∀ n : Int32, ¬ n = 0 → r.1 = n → ∃ m', p_195 g n (g 1076 80) = some m' ∧ m' 1076 67 = Int32.ofNat (q + 2) ∧ w_fr (fun q => q = 1130 ∨ q = 1076) m m' ∧ (∀ b, b ≠ 67 → b ≠ 75 → b ≠ 76 → m' 1076 b = m 1076 b) ∧ (r.1 = 0 → mvs m' r.2.2.1 ∧ m' 1076 72 = Int32.ofNat r.2.2.1.length ∧ m' 1076 75 = 0 ∧ m' 1076 76 < 0) ∧ (¬ r.1 = 0 → m' 1076 75 = r.1 ∧ m' 1076 76 = m 1076 80) := by
    intro n hn h2
    obtain ⟨m', a1, a2, a3, a4, a5⟩ := m_195 (m := g) (e := n) (x := g 1076 80) (by rw [gb 75 (by decide)]; exact h75) (by rw [gb 76 (by decide)]; exact h76) hn
    refine ⟨m', a1, ?_, fun z hz => ?_, fun b h1 h3 h4 => ?_, fun h => ?_, fun _ => ⟨by rw [h2]; exact a2, ?_⟩⟩
    · rw [a5 67 (by decide) (by decide)]; exact g67
    · rw [a4 z (fun x => hz (Or.inr x)), gq z (fun x => hz (Or.inr x))]
    · rw [a5 b h3 h4]; exact gb b h1
    · rw [h2] at h; exact absurd h hn
    · rw [a3, gb 80 (by decide)]
  cases V with
  | nil =>
    have hx3 : (none : Option (Int32 × PM)) = some r := hx2
    cases hx3
  | cons v st =>
    have hl : st.length + 1 ≤ 27 := hV
    have e72 : g 1076 72 - 1 = Int32.ofNat st.length := by
      rw [gb 72 (by decide), h72]
      have := u_subL (a := st.length + 1) (n := 1) (by omega)
      exact this
    have HV1 : mv g 1130 (9 * st.length) (some v) := mv_b HV.1 (fun b _ _ => by rw [gq 1130 (by decide)])
    obtain ⟨n1, n2⟩ := m_199 (by omega) HV1
    rw [e72, n1, n2]
    simp only [w_gd]
    cases v with
    | inl n =>
      have hx3 : some ((2 : Int32), e, .inl n :: st, d) = some r := hx2
      rw [if_neg (show ¬ ofB (vNum (some (Sum.inl n : VL))) = 0 from (by decide : ¬ ofB true = 0))]
      obtain ⟨m', a1, a2⟩ := er 2 (by decide) (by cases hx3; rfl)
      rw [a1]
      exact ⟨m', rfl, a2⟩
    | inr l =>
      have h8 := HV1.1
      have hx3 : (if dg < l.length then some ((0 : Int32), e, .inl (l.getD dg 0) :: st, d) else some (3, e, .inr l :: st, d) : Option (Int32 × PM)) = some r := hx2
      rw [if_pos (by rfl), u_9, u_ix (by omega) (by decide), u_cl (by omega), HV1.2.1]
      simp only [w_gd]
      by_cases c : dg < l.length
      · rw [if_pos c] at hx3
        rw [if_pos ((u_lt (by omega) (by omega)).mpr c)]
        have e9 : Int32.ofNat (9 * st.length) + 1 = Int32.ofNat (9 * st.length + 1) := u_S _
        have e10 : Int32.ofNat (9 * st.length + 1) + Int32.ofNat dg = Int32.ofNat (9 * st.length + 1 + dg) := u_add _ _
        simp (disch := omega) only [e9, e10, u_ix, u_cl, w_gd, HV1.2.2 dg c]
        cases hx3
        refine ⟨_, rfl, ?_, fun q hq => funext fun b => ?_, fun b h1 h3 h4 => ?_, fun _ => ⟨⟨⟨?_, ?_⟩, mvs_b HV.2 (fun b hb => ?_)⟩, ?_, ?_, ?_⟩, fun h => absurd rfl h⟩
        · simp (disch := omega) only [w_up_q]; exact g67
        · have n1 : q ≠ 1130 := fun x => hq (Or.inl x)
          have n2 : q ≠ 1076 := fun x => hq (Or.inr x)
          simp (disch := omega) only [w_up_q]
          rw [gq q n2]
        · simp (disch := omega) only [w_up_q]; exact gb b h1
        · exact w_up_at
        · rw [w_up_b (by omega), w_up_at]
        · rw [w_up_b (by omega), w_up_b (by omega), gq 1130 (by decide)]
        · simp (disch := omega) only [w_up_q]; rw [gb 72 (by decide)]; exact h72
        · simp (disch := omega) only [w_up_q]; rw [gb 75 (by decide)]; exact h75
        · simp (disch := omega) only [w_up_q]; rw [gb 76 (by decide)]; exact h76
      · rw [if_neg c] at hx3
        rw [if_neg (fun x => c ((u_lt (by omega) (by omega)).mp x))]
        obtain ⟨m', a1, a2⟩ := er 3 (by decide) (by cases hx3; rfl)
        rw [a1]
        exact ⟨m', rfl, a2⟩
end S81
