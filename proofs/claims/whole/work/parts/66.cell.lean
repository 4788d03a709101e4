/-! ===== a cell takes what was typed: the class ===== -/
/-- the code object at q holds what was read -/
def cd (h : Hp) (q : Nat) (s : RS) (lang : Int32) : Prop := h q 3 = Int32.ofNat s.2.1.length ∧ s.2.1.length ≤ 41 ∧ (∀ i, i < s.2.1.length → h (q + 1) i = (s.2.1.getD i (0, 0, 0)).1 ∧ h (q + 2) i = (s.2.1.getD i (0, 0, 0)).2.1 ∧ h (q + 3) i = (s.2.1.getD i (0, 0, 0)).2.2) ∧ h q 4 = lang ∧ h q 5 = s.2.2.2.2.1 ∧ h q 6 = s.2.2.2.2.2.1 ∧ h q 7 = s.2.2.2.2.2.2
section S66
variable {T : List Int32}
theorem rs_cd {q : Nat} {h : Hp} {s : RS} {lang : Int32} (H : rs T q h s) (hl : h 24 4 = lang) : cd h 24 s lang := by
  obtain ⟨-, -, -, -, -, -, -, -, a, b, d, e1, e2, e3⟩ := H
  exact ⟨a, b, d, hl, e1, e2, e3⟩
theorem c_9 {h : Hp} {q0 q1 : Nat} {s : RS} {lang : Int32} (H : cd h q1 s lang) (hq : q1 + 3 < q0 ∨ q0 + 3 < q1) : ∃ h', p_9 h q0 q1 = some h' ∧ cd h' q0 s lang ∧ (∀ b, b < 3 → h' q0 b = h q0 b) ∧ w_fr (fun z => q0 ≤ z ∧ z ≤ q0 + 3) h h' := by
  obtain ⟨a, b, d, e0, e1, e2, e3⟩ := H
  unfold p_9
  simp only [w_let, w_cp_fi]
  refine ⟨_, rfl, ⟨?_, b, fun i hi => ?_, ?_, ?_, ?_, ?_⟩, fun z hz => ?_, fun z hz => ?_⟩
  · simp (disch := omega) only [w_up_at, w_up_b, w_up_q, w_fi_q]; exact a
  · obtain ⟨d1, d2, d3⟩ := d i hi
    simp (disch := omega) only [w_up_q, w_fi_q, w_fi_at, Nat.sub_zero, Nat.zero_add]
    exact ⟨d1, d2, d3⟩
  · simp (disch := omega) only [w_up_at, w_up_b, w_up_q, w_fi_q]; exact e0
  · simp (disch := omega) only [w_up_at, w_up_b, w_up_q, w_fi_q]; exact e1
  · simp (disch := omega) only [w_up_at, w_up_b, w_up_q, w_fi_q]; exact e2
  · simp (disch := omega) only [w_up_at, w_up_b, w_up_q, w_fi_q]; exact e3
  · simp (disch := omega) only [w_up_b, w_fi_q]
  · funext k
    simp (disch := omega) only [w_up_q, w_fi_q]
theorem c_128n {h : Hp} {i c : Nat} {f : Int32} (hi : i < 2) (hf : ¬ f = -1) : p_128 h (Int32.ofNat i) (64 * c + 52) f = some (0, w_up h (48 + 2 * i) 1 0) := by
  unfold p_128 q_128_18 p_57
  rw [if_neg hf]
  have e48 : 2 * i + 48 = 48 + 2 * i := by omega
  simp (disch := omega) only [u_ix, u_cl, w_gd, w_let, Option.bind_some, if_neg hf, e48]
theorem c_128y {h : Hp} {i c : Nat} {s : RS} {lang : Int32} (hi : i < 2) (ht : tx h (48 + 2 * i) T) (hs : cd h 24 s lang) : ∃ h', p_128 h (Int32.ofNat i) (64 * c + 52) (-1) = some (1, h') ∧ tx h' (64 * c + 53) T ∧ cd h' (64 * c + 55) s lang ∧ h' (64 * c + 52) 15 = 0 ∧ (∀ b, b ≠ 15 → h' (64 * c + 52) b = h (64 * c + 52) b) ∧ h' (48 + 2 * i) 1 = 0 ∧ (∀ b, b ≠ 1 → h' (48 + 2 * i) b = h (48 + 2 * i) b) ∧ w_fr (fun z => (64 * c + 52 ≤ z ∧ z ≤ 64 * c + 58) ∨ z = 48 + 2 * i) h h' := by
  unfold p_128 q_128_18 p_57
  rw [if_pos rfl]
  have e48 : 2 * i + 48 = 48 + 2 * i := by omega
  simp (disch := omega) only [u_ix, u_cl, w_gd, w_let, Option.bind_some, if_true, e48]
  obtain ⟨h1, a1, a2, a3, a4⟩ := s_61 (q0 := 64 * c + 52 + 1) ht (by omega) (by omega) (by omega)
  rw [a1]
  simp only [Option.bind_some]
  have hs1 : cd h1 24 s lang := by
    obtain ⟨a, b, d, e0, e1, e2, e3⟩ := hs
    have k : ∀ z, z < 30 → h1 z = h z := fun z hz => a2 z (by omega)
    unfold cd
    rw [k 24 (by omega), k 25 (by omega), k 26 (by omega), k 27 (by omega)]
    exact ⟨a, b, d, e0, e1, e2, e3⟩
  obtain ⟨h2, b1, b2, b3, b4⟩ := c_9 (q0 := 64 * c + 52 + 3) hs1 (by omega)
  rw [b1]
  simp only [Option.bind_some]
  refine ⟨_, rfl, ?_, ?_, ?_, fun b hb => ?_, w_up_at, fun b hb => ?_, fun z hz => ?_⟩
  · obtain ⟨t1, t2, t3, t4⟩ := a4
    refine ⟨t1, ?_, fun j hj => ?_, t4⟩
    · simp (disch := omega) only [w_up_q]
      rw [b4 (64 * c + 53) (by omega)]; exact t2
    · simp (disch := omega) only [w_up_q]
      rw [b4 (64 * c + 53 + 1) (by omega)]; exact t3 j hj
  · obtain ⟨a, b, d, e0, e1, e2, e3⟩ := b2
    unfold cd
    simp (disch := omega) only [w_up_q]
    exact ⟨a, b, d, e0, e1, e2, e3⟩
  · simp (disch := omega) only [w_up_q, w_up_at]
  · simp (disch := omega) only [w_up_q, w_up_b]
    rw [b4 _ (by omega), a2 _ (by omega)]
  · simp (disch := omega) only [w_up_q, w_up_b]
    rw [b4 _ (by omega), a2 _ (by omega)]
  · funext b
    simp (disch := omega) only [w_up_q]
    rw [b4 _ (by omega), a2 _ (by omega)]
end S66
