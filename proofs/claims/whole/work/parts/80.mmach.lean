/-! ===== the model's machine: + - * are applied ===== -/
section S80
variable {m m' : Hp} {p : DP}
theorem m_200b {O : List (Int32 × Nat)} {x k : Int32} {c : Nat} {V : List VL} {e : Nat → Option VL} {d : DR} {r : Int32 × PM} (hk : (x = 43 ∧ k = 4) ∨ (x = 45 ∧ k = 5) ∨ (x = 42 ∧ k = 6)) (HO : mk m ((x, c) :: O)) (hO : O.length < 80) (h70 : m 1076 70 = Int32.ofNat (O.length + 1)) (HV : mvs m V) (hV : V.length ≤ 27) (h72 : m 1076 72 = Int32.ofNat V.length) (h75 : m 1076 75 = 0) (h76 : m 1076 76 < 0) (hx : xs p k 0 (e, V, d) = some r) : ∃ m', p_200 m = some m' ∧ m' 1076 70 = Int32.ofNat O.length ∧ mk m' O ∧ apf m m' ∧ (r.1 = 0 → mvs m' r.2.2.1 ∧ m' 1076 72 = Int32.ofNat r.2.2.1.length ∧ m' 1076 75 = 0 ∧ m' 1076 76 < 0) ∧ (¬ r.1 = 0 → m' 1076 75 = r.1 ∧ m' 1076 76 = m 1076 80) := by
  have hx2 : (match ((e, V, d) : PM).2.1 with
    | .inl b :: .inl a :: st => some (0, e, .inl (opr k a b) :: st, d)
    | _ :: _ :: _ => some (2, e, V, d)
    | _ => none : Option (Int32 × PM)) = some r := by
    rw [← hx]
    rcases hk with ⟨-, rfl⟩ | ⟨-, rfl⟩ | ⟨-, rfl⟩ <;> rfl
  have e70 : m 1076 70 - 1 = Int32.ofNat O.length := by
    rw [h70]
    have := u_subL (a := O.length + 1) (n := 1) (by omega)
    exact this
  obtain ⟨o1, o2, o3, o4⟩ := HO
  unfold p_200
  simp only [w_let, e70]
  generalize hg : w_up m 1076 70 (Int32.ofNat O.length) = g
  have gq : ∀ q, q ≠ 1076 → g q = m q := fun q hq => by subst hg; exact funext fun b => w_up_q hq
  have gb : ∀ b, b ≠ 70 → g 1076 b = m 1076 b := fun b hb => by subst hg; exact w_up_b hb
  have g70 : g 1076 70 = Int32.ofNat O.length := by subst hg; exact w_up_at
  have x35 : ¬ x = 35 := by rcases hk with ⟨rfl, -⟩ | ⟨rfl, -⟩ | ⟨rfl, -⟩ <;> decide
  rw [g70, u_cl (by omega), u_ix hO (by decide), gq 1128 (by decide), o1]
  simp only [w_gd]
  rw [if_neg x35]
  have gO : mk g O := mk_fr o4 (gq _ (by decide)) (gq _ (by decide))
  have ga : apf m g := ⟨fun q hq => gq q (fun x => hq (Or.inr x)), fun b h1 _ _ _ => gb b h1⟩
  -- an error
  have er : r.1 = 2 → ∃ m', q_200_73 g = some m' ∧ m' 1076 70 = Int32.ofNat O.length ∧ mk m' O ∧ apf m m' ∧ (r.1 = 0 → mvs m' r.2.2.1 ∧ m' 1076 72 = Int32.ofNat r.2.2.1.length ∧ m' 1076 75 = 0 ∧ m' 1076 76 < 0) ∧ (¬ r.1 = 0 → m' 1076 75 = r.1 ∧ m' 1076 76 = m 1076 80) := by
    intro h2
    obtain ⟨m', a1, a2, a3, a4, a5⟩ := m_195 (m := g) (e := 2) (x := g 1076 80) (by rw [gb 75 (by decide)]; exact h75) (by rw [gb 76 (by decide)]; exact h76) (by decide)
    unfold q_200_73
    rw [a1]
    refine ⟨m', rfl, ?_, mk_fr gO (a4 _ (by decide)) (a4 _ (by decide)), ⟨fun q hq => ?_, fun b h1 h2 h3 h4 => ?_⟩, fun h => ?_, fun _ => ⟨by rw [h2]; exact a2, ?_⟩⟩
    · rw [a5 70 (by decide) (by decide)]; exact g70
    · rw [a4 q (fun x => hq (Or.inr x))]; exact ga.1 q hq
    · rw [a5 b h3 h4]; exact gb b h1
    · rw [h2] at h; exact absurd h (by decide)
    · rw [a3, gb 80 (by decide)]
  cases V with
  | nil =>
    have hx3 : (none : Option (Int32 × PM)) = some r := hx2
    cases hx3
  | cons w V1 =>
    cases V1 with
    | nil =>
      have hx3 : (none : Option (Int32 × PM)) = some r := by cases w <;> exact hx2
      cases hx3
    | cons v st =>
      have hl : st.length + 1 + 1 ≤ 27 := hV
      have e72 : g 1076 72 - 1 = Int32.ofNat (st.length + 1) := by
        rw [gb 72 (by decide), h72]
        have := u_subL (a := st.length + 1 + 1) (n := 1) (by omega)
        exact this
      have f72 : g 1076 72 - 2 = Int32.ofNat st.length := by
        rw [gb 72 (by decide), h72]
        have := u_subL (a := st.length + 1 + 1) (n := 2) (by omega)
        exact this
      have HW : mv g 1130 (9 * (st.length + 1)) (some w) := mv_b HV.1 (fun b _ _ => by rw [gq 1130 (by decide)])
      have HV1 : mv g 1130 (9 * st.length) (some v) := mv_b HV.2.1 (fun b _ _ => by rw [gq 1130 (by decide)])
      obtain ⟨n1, n2⟩ := m_199 (by omega) HW
      obtain ⟨k1, k2⟩ := m_199 (by omega) HV1
      rw [e72, f72, n1, n2, k1, k2]
      simp only [w_gd]
      cases w with
      | inr l =>
        have hx3 : some ((2 : Int32), e, .inr l :: v :: st, d) = some r := hx2
        rw [if_pos (by rfl)]
        exact er (by cases hx3; rfl)
      | inl b =>
        rw [if_neg (show ¬ ofB (vNum (some (Sum.inl b : VL))) = 0 from (by decide : ¬ ofB true = 0))]
        cases v with
        | inr l =>
          have hx3 : some ((2 : Int32), e, .inl b :: .inr l :: st, d) = some r := hx2
          rw [if_pos (by rfl)]
          exact er (by cases hx3; rfl)
        | inl a =>
          have hx3 : some ((0 : Int32), e, .inl (opr k a b) :: st, d) = some r := hx2
          rw [if_neg (show ¬ ofB (vNum (some (Sum.inl a : VL))) = 0 from (by decide : ¬ ofB true = 0))]
          have e9 : ∀ z : Nat, Int32.ofNat (9 * z) + 1 = Int32.ofNat (9 * z + 1) := fun z => u_S _
          have e1 : Int32.ofNat (st.length + 1) - 1 = Int32.ofNat st.length := by
            have := u_subL (a := st.length + 1) (n := 1) (by omega)
            exact this
          have eo : (if x = 43 then a + b else if x = 45 then a - b else a * b) = opr k a b := by
            rcases hk with ⟨rfl, rfl⟩ | ⟨rfl, rfl⟩ | ⟨rfl, rfl⟩ <;> rfl
          simp (disch := omega) only [u_9, e9, u_ix, u_cl, w_gd, w_up_at, e1, HW.2, HV1.2, eo]
          cases hx3
          refine ⟨_, rfl, ?_, ?_, ⟨fun q hq => funext fun b => ?_, fun b h1 h2 h3 h4 => ?_⟩, fun _ => ⟨⟨⟨?_, ?_⟩, mvs_b HV.2.2 (fun b hb => ?_)⟩, ?_, ?_, ?_⟩, fun h => absurd rfl h⟩
          · simp (disch := omega) only [w_up_q, w_up_b]; exact g70
          · exact mk_fr gO (funext fun b => by simp (disch := omega) only [w_up_q]) (funext fun b => by simp (disch := omega) only [w_up_q])
          · have n1 : q ≠ 1130 := fun x => hq (Or.inl x)
            have n2 : q ≠ 1076 := fun x => hq (Or.inr x)
            simp (disch := omega) only [w_up_q]
            rw [ga.1 q hq]
          · simp (disch := omega) only [w_up_q, w_up_b]; exact gb b h1
          · rw [w_up_b (by omega), w_up_q (by decide)]; exact HV1.1
          · exact w_up_at
          · rw [w_up_b (by omega), w_up_q (by decide), gq 1130 (by decide)]
          · rw [w_up_q (by decide), w_up_at]; rfl
          · simp (disch := omega) only [w_up_q, w_up_b]; rw [gb 75 (by decide)]; exact h75
          · simp (disch := omega) only [w_up_q, w_up_b]; rw [gb 76 (by decide)]; exact h76
end S80
