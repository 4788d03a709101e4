/-! ===== the model's machine: an answer is given ===== -/
section S86
variable {m : Hp} {p : DP}
theorem m_198 {c : Nat} {d : DR} {x k : Int32} (hk : (x = 63 ∧ k = 0) ∨ (x = 64 ∧ k = 1)) (H : dm m c p d) (hd : d.1 < 40) : ∃ m', p_198 m x = some ((drw p k d).1, m') ∧ dm m' c p (drw p k d).2 ∧ dmf c m m' := by
  have H0 := H
  obtain ⟨r1, r2, r3, r4, r5, r6, r7, r8, r9, r10, r11, r12, r13⟩ := H
  have h0 : w_up m 1076 31 d.2.1 = m := by rw [← r9, w_up_self]
  have es : (if m 1076 29 = 0 then (0 : Int32) else if m 1076 30 < m 1076 28 then 1 else 0) = ofB (decide (d.1 < p.2.1.length)) := by
    have el : (m 1076 30 < m 1076 28) ↔ d.1 < p.2.1.length := by rw [r3, r5]; exact u_lt (by omega) (by omega)
    by_cases c1 : d.1 < p.2.1.length
    · have n0 : ¬ m 1076 29 = 0 := r8.elim (fun h => by omega) id
      rw [if_neg n0, if_pos (el.mpr c1), decide_eq_true c1]; rfl
    · rw [if_neg (fun e => c1 (el.mp e)), ite_self, decide_eq_false c1]; rfl
  unfold p_198 q_198_13
  rw [es]
  by_cases c1 : d.1 < p.2.1.length
  · rw [decide_eq_true c1, if_neg (by decide), r3, u_ix hd (by decide), u_cl (by omega), r13 d.1 c1]
    simp only [w_gd]
    obtain ⟨m', a1, a2, a3⟩ := m_198t (p := p) m (p.2.1.getD d.1 0) d.2.1 H0 hd h0.symm
    have ex : drx p k d = (p.2.1.getD d.1 0, d.2.1) := by unfold drx; rw [if_pos c1]
    unfold drw; rw [ex]
    exact ⟨m', a1, a2, a3⟩
  · rw [decide_eq_false c1, if_pos (by rfl)]
    by_cases c2 : p.1 = true
    · rw [if_pos (r7.mpr c2)]
      obtain ⟨m', a1, a2, a3⟩ := m_198t (p := p) m 0 d.2.1 H0 hd h0.symm
      have ex : drx p k d = (0, d.2.1) := by unfold drx; rw [if_neg c1, if_pos c2]
      unfold drw; rw [ex]
      exact ⟨m', a1, a2, a3⟩
    · rw [if_neg (fun e => c2 (r7.mp e))]
      unfold q_198_40 q_198_48
      rcases hk with ⟨rfl, rfl⟩ | ⟨rfl, rfl⟩
      · have ex : drx p 0 d = (nxt d.2.1, nxt d.2.1) := by unfold drx; rw [if_neg c1, if_neg c2, if_pos rfl]
        rw [if_pos rfl, r9]
        simp only [w_let, if_true, w_up_at]
        obtain ⟨m', a1, a2, a3⟩ := m_198t (p := p) (w_up m 1076 31 (nxt d.2.1)) (nxt d.2.1) (nxt d.2.1) H0 hd rfl
        unfold drw; rw [ex]
        exact ⟨m', a1, a2, a3⟩
      · have ex : drx p 1 d = (p.2.2, d.2.1) := by unfold drx; rw [if_neg c1, if_neg c2, if_neg (by decide)]
        rw [if_neg (by decide), if_neg (by decide), r10]
        obtain ⟨m', a1, a2, a3⟩ := m_198t (p := p) m p.2.2 d.2.1 H0 hd h0.symm
        unfold drw; rw [ex]
        exact ⟨m', a1, a2, a3⟩
end S86
