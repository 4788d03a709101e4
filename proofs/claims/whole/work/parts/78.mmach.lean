/-! ===== the model's machine: its stack ===== -/
/-- the model's stack -/
def mvs (m : Hp) : List VL → Prop
  | [] => True
  | v :: st => mv m 1130 (9 * st.length) (some v) ∧ mvs m st
/-- only the nine slots from 9 * i on, and the height, change -/
def sfx (i : Nat) (m m' : Hp) : Prop := w_fr (fun q => q = 1130 ∨ q = 1076) m m' ∧ (∀ b, b < 9 * i ∨ 9 * i + 9 ≤ b → m' 1130 b = m 1130 b) ∧ ∀ b, b ≠ 72 → m' 1076 b = m 1076 b
section S78
variable {m m' : Hp}
theorem mv_b {o : Nat} {v : VL} (H : mv m 1130 o (some v)) (h : ∀ b, o ≤ b → b < o + 9 → m' 1130 b = m 1130 b) : mv m' 1130 o (some v) := by
  cases v with
  | inl n => exact ⟨(h _ (by omega) (by omega)).trans H.1, (h _ (by omega) (by omega)).trans H.2⟩
  | inr l =>
    have h8 := H.1
    exact ⟨H.1, (h _ (by omega) (by omega)).trans H.2.1, fun k hk => (h _ (by omega) (by omega)).trans (H.2.2 k hk)⟩
theorem mvs_b : ∀ {st : List VL}, mvs m st → (∀ b, b < 9 * st.length → m' 1130 b = m 1130 b) → mvs m' st := by
  intro st
  induction st with
  | nil => intro _ _; trivial
  | cons v st ih =>
    intro H h
    rw [List.length_cons] at h
    exact ⟨mv_b H.1 (fun b h1 h2 => h b (by omega)), ih H.2 (fun b hb => h b (by omega))⟩
theorem u_9 {a : Nat} : (9 : Int32) * Int32.ofNat a = Int32.ofNat (9 * a) := by
  rw [show (9 : Int32) = Int32.ofNat 9 by rfl, u_mul]
/-- a number is pushed -/
theorem m_196 {st : List VL} {x : Int32} (hl : st.length < 30) (H : mvs m st) (h72 : m 1076 72 = Int32.ofNat st.length) : ∃ m', p_196 m x = some m' ∧ mvs m' (.inl x :: st) ∧ m' 1076 72 = Int32.ofNat (st.length + 1) ∧ sfx st.length m m' := by
  unfold p_196
  simp (disch := omega) only [w_let, h72, u_9, u_ix, u_cl, w_gd, w_up_q, u_S]
  refine ⟨_, rfl, ⟨⟨?_, ?_⟩, mvs_b H (fun b hb => ?_)⟩, w_up_at, fun q hq => funext fun b => ?_, fun b hb => ?_, fun b hb => ?_⟩
  · simp (disch := omega) only [w_up_q, w_up_b, w_up_at]
  · simp (disch := omega) only [w_up_q, w_up_at]
  · simp (disch := omega) only [w_up_q, w_up_b]
  · have n1 : q ≠ 1130 := fun e => hq (Or.inl e)
    have n2 : q ≠ 1076 := fun e => hq (Or.inr e)
    simp (disch := omega) only [w_up_q]
  · simp (disch := omega) only [w_up_q, w_up_b]
  · simp (disch := omega) only [w_up_q, w_up_b]
/-- an error is kept, the first one with its place -/
theorem m_195 {e x : Int32} (h75 : m 1076 75 = 0) (h76 : m 1076 76 < 0) (he : ¬ e = 0) : ∃ m', p_195 m e x = some m' ∧ m' 1076 75 = e ∧ m' 1076 76 = x ∧ w_fr (fun q => q = 1076) m m' ∧ ∀ b, b ≠ 75 → b ≠ 76 → m' 1076 b = m 1076 b := by
  unfold p_195 q_195_8
  simp only [w_let, h75, if_true, w_up_at]
  rw [w_up_b (by decide), if_pos h76]
  refine ⟨_, rfl, ?_, w_up_at, fun q hq => funext fun b => ?_, fun b h1 h2 => ?_⟩
  · rw [w_up_b (by decide), w_up_at]
  · have n2 : q ≠ 1076 := hq
    rw [w_up_q n2, w_up_q n2]
  · rw [w_up_b h2, w_up_b h1]
theorem m_199 {i : Nat} {v : VL} (hi : i < 40) (H : mv m 1130 (9 * i) (some v)) : v_199 m (Int32.ofNat i) = ofB (vNum (some v)) ∧ g_199 (Int32.ofNat i) = true := by
  unfold v_199 g_199
  rw [u_9, u_cl (by omega), u_ix (by omega) (by decide)]
  refine ⟨?_, rfl⟩
  cases v with
  | inl n => rw [H.1]; rfl
  | inr l =>
    have h8 := H.1
    rw [H.2.1, if_neg (u_m1 (by omega))]; rfl
end S78
