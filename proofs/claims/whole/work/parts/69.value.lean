/-! ===== values are copied ===== -/
section S69
variable {h m : Hp} {q i : Nat} {v : Option VL}
theorem c_71 {q2 j : Nat} (hi : i < 27) (hj : j < 27) (H : cv h q2 j v) (hq : q2 + 2 ≠ q + 1) (hne : q2 = q → j ≠ i) : ∃ h', p_71 h q (Int32.ofNat i) q2 (Int32.ofNat j) = some h' ∧ cv h' q i v ∧ vfr q i h h' := by
  unfold p_71
  have h1 : ¬ Int32.ofNat i < 0 := u_lt0 (by omega)
  have h2 : Int32.ofNat i < 27 := (u_ltL (by omega) (by decide)).mpr hi
  have h3 : ¬ Int32.ofNat j < 0 := u_lt0 (by omega)
  have h4 : Int32.ofNat j < 27 := (u_ltL (by omega) (by decide)).mpr hj
  rw [if_neg h1, if_pos h2, if_neg h3, if_pos h4]
  simp (disch := omega) only [u_ix, u_cl, w_gd, w_let]
  generalize hg : w_up h (q + 1) i (h (q2 + 1) j) = g
  have eg : g (q2 + 2) = h (q2 + 2) := by subst hg; funext b; rw [w_up_q (by omega)]
  have e8 : ∀ a b : Nat, Int32.ofNat a * 8 + Int32.ofNat b = Int32.ofNat (a * 8 + b) := fun a b => by
    rw [show (8 : Int32) = Int32.ofNat 8 by rfl, u_mul, u_add]
  have lp : w_lp (fun (s : Int32 × Hp) => l_71_20 q (Int32.ofNat i) q2 (Int32.ofNat j) s.1 s.2) w_N (0, g) = some (w_fi g (q + 2) (i * 8) 8 (fun k => h (q2 + 2) (j * 8 + k))) := by
    rw [show ((0, g) : Int32 × Hp) = (Int32.ofNat 0, w_fi g (q + 2) (i * 8) 0 (fun k => h (q2 + 2) (j * 8 + k))) by rw [w_fi0]; rfl]
    refine u_for (N := w_N) (fun k => (Int32.ofNat k, w_fi g (q + 2) (i * 8) k (fun k => h (q2 + 2) (j * 8 + k)))) 8 (by unfold w_N; omega) ?_ ?_
    · intro k hk
      have hlt : Int32.ofNat k < 8 := (u_ltL (by omega) (by decide)).mpr hk
      have ev : w_fi g (q + 2) (i * 8) k (fun k => h (q2 + 2) (j * 8 + k)) (q2 + 2) (j * 8 + k) = h (q2 + 2) (j * 8 + k) := by
        by_cases e : q2 = q
        · have := hne e
          rw [w_fi_b (by omega), eg]
        · rw [w_fi_q (by omega), eg]
      simp (disch := omega) only [l_71_20, hlt, if_true, e8, u_ix, u_cl, w_gd, ev, w_let, u_S]
      rw [w_fiS]
    · have hn : ¬ Int32.ofNat 8 < 8 := by decide
      simp only [l_71_20, hn, if_false]
  rw [lp]
  refine ⟨_, rfl, ?_, fun z hz => ?_, fun k hk => ?_, fun b hb => ?_⟩
  · have et : w_fi g (q + 2) (i * 8) 8 (fun k => h (q2 + 2) (j * 8 + k)) (q + 1) i = h (q2 + 1) j := by
      rw [w_fi_q (by omega)]; subst hg; exact w_up_at
    have ed : ∀ k, k < 8 → w_fi g (q + 2) (i * 8) 8 (fun k => h (q2 + 2) (j * 8 + k)) (q + 2) (i * 8 + k) = h (q2 + 2) (j * 8 + k) := by
      intro k hk
      rw [w_fi_at (by omega) (by omega), show i * 8 + k - i * 8 = k by omega]
    cases v with
    | none => exact et.trans H
    | some v =>
      cases v with
      | inl n => exact ⟨et.trans H.1, (ed 0 (by decide)).trans H.2⟩
      | inr l => exact ⟨H.1, et.trans H.2.1, fun k hk => (ed k (by have := H.1; omega)).trans (H.2.2 k hk)⟩
  · rw [show w_fi g (q + 2) (i * 8) 8 (fun k => h (q2 + 2) (j * 8 + k)) z = g z from funext fun b => w_fi_q (by omega)]
    subst hg
    exact funext fun b => w_up_q (by omega)
  · rw [w_fi_q (by omega)]; subst hg; exact w_up_b hk
  · rw [w_fi_b (by omega)]; subst hg; exact w_up_q (by omega)
/-- nothing is known -/
theorem c_67 : ∃ h', p_67 h q = some h' ∧ (∀ i, i < 27 → cv h' q i none) ∧ w_fr (fun z => z = q + 1) h h' := by
  unfold p_67
  have lp : w_lp (fun (s : Int32 × Hp) => l_67_2 q s.1 s.2) w_N (0, h) = some (w_fi h (q + 1) 0 27 (fun _ => 0)) := by
    rw [show ((0, h) : Int32 × Hp) = (Int32.ofNat 0, w_fi h (q + 1) 0 0 (fun _ => 0)) by rw [w_fi0]; rfl]
    refine u_for (N := w_N) (fun k => (Int32.ofNat k, w_fi h (q + 1) 0 k (fun _ => 0))) 27 (by unfold w_N; omega) ?_ ?_
    · intro k hk
      have hlt : Int32.ofNat k < 27 := (u_ltL (by omega) (by decide)).mpr hk
      simp (disch := omega) only [l_67_2, hlt, if_true, u_ix, u_cl, w_gd, w_let, u_S]
      have := w_fiS h (q + 1) 0 k (fun _ => 0)
      rw [Nat.zero_add] at this
      rw [this]
    · have hn : ¬ Int32.ofNat 27 < 27 := by decide
      simp only [l_67_2, hn, if_false]
  refine ⟨_, lp, fun i hi => ?_, fun z hz => funext fun b => w_fi_q hz⟩
  show w_fi h (q + 1) 0 27 (fun _ => 0) (q + 1) i = 0
  rw [w_fi_at (Nat.zero_le _) (by omega)]
/-- all are copied -/
theorem c_72 {q2 : Nat} (hq : q2 + 2 ≠ q + 1) (hne : q2 ≠ q) : ∃ h', p_72 h q q2 = some h' ∧ (∀ i v, i < 27 → cv h q2 i v → cv h' q i v) ∧ w_fr (fun z => z = q + 1 ∨ z = q + 2) h h' := by
  unfold p_72
  simp only [w_let, w_cp_fi]
  refine ⟨_, rfl, fun i v hi H => ?_, fun z hz => funext fun b => ?_⟩
  · have et : ∀ i, i < 27 → w_fi (w_fi h (q + 1) 0 27 (fun i => h (q2 + 1) (0 + i))) (q + 2) 0 216 (fun i => w_fi h (q + 1) 0 27 (fun i => h (q2 + 1) (0 + i)) (q2 + 2) (0 + i)) (q + 1) i = h (q2 + 1) i := by
      intro i hi
      rw [w_fi_q (by omega), w_fi_at (by omega) (by omega), Nat.sub_zero, Nat.zero_add]
    have ed : ∀ b, b < 216 → w_fi (w_fi h (q + 1) 0 27 (fun i => h (q2 + 1) (0 + i))) (q + 2) 0 216 (fun i => w_fi h (q + 1) 0 27 (fun i => h (q2 + 1) (0 + i)) (q2 + 2) (0 + i)) (q + 2) b = h (q2 + 2) b := by
      intro b hb
      rw [w_fi_at (by omega) (by omega), Nat.sub_zero, Nat.zero_add, w_fi_q (by omega)]
    cases v with
    | none => exact (et i hi).trans H
    | some v =>
      cases v with
      | inl n => exact ⟨(et i hi).trans H.1, (ed _ (by omega)).trans H.2⟩
      | inr l => exact ⟨H.1, (et i hi).trans H.2.1, fun k hk => (ed _ (by have := H.1; omega)).trans (H.2.2 k hk)⟩
  · rw [w_fi_q (by omega), w_fi_q (by omega)]
/-- the model's nine slots -/
theorem m_193 {r r2 o o2 : Nat} (hl : o + 9 ≤ w_len r) (hl2 : o2 + 9 ≤ w_len r2) (hb : w_len r ≤ 100000) (hb2 : w_len r2 ≤ 100000) (hd : r ≠ r2 ∨ o + 9 ≤ o2 ∨ o2 + 9 ≤ o) : p_193 m r (Int32.ofNat o) r2 (Int32.ofNat o2) = some (w_fi m r2 o2 9 (fun k => m r (o + k))) := by
  unfold p_193
  rw [show ((0, m) : Int32 × Hp) = (Int32.ofNat 0, w_fi m r2 o2 0 (fun k => m r (o + k))) by rw [w_fi0]; rfl]
  refine u_for (N := w_N) (fun k => (Int32.ofNat k, w_fi m r2 o2 k (fun k => m r (o + k)))) 9 (by unfold w_N; omega) ?_ ?_
  · intro k hk
    have hlt : Int32.ofNat k < 9 := (u_ltL (by omega) (by decide)).mpr hk
    have e1 : Int32.ofNat o + Int32.ofNat k = Int32.ofNat (o + k) := u_add o k
    have e2 : Int32.ofNat o2 + Int32.ofNat k = Int32.ofNat (o2 + k) := u_add o2 k
    have ev : w_fi m r2 o2 k (fun k => m r (o + k)) r (o + k) = m r (o + k) := by
      by_cases e : r = r2
      · rw [w_fi_b (by omega)]
      · rw [w_fi_q e]
    simp (disch := omega) only [l_193_2, hlt, if_true, e1, e2, u_ix, u_cl, w_gd, ev, w_let, u_S]
    rw [w_fiS]
  · have hn : ¬ Int32.ofNat 9 < 9 := by decide
    simp only [l_193_2, hn, if_false]
theorem mv_cp {r r2 o o2 : Nat} (H : mv m r o v) : mv (w_fi m r2 o2 9 (fun k => m r (o + k))) r2 o2 v := by
  have e : ∀ k, k < 9 → w_fi m r2 o2 9 (fun k => m r (o + k)) r2 (o2 + k) = m r (o + k) := fun k hk => by
    rw [w_fi_at (by omega) (by omega), show o2 + k - o2 = k by omega]
  cases v with
  | none => exact (e 0 (by decide)).trans H
  | some v =>
    cases v with
    | inl n => exact ⟨(e 0 (by decide)).trans H.1, (e 1 (by decide)).trans H.2⟩
    | inr l =>
      refine ⟨H.1, (e 0 (by decide)).trans H.2.1, fun k hk => ?_⟩
      have h8 := H.1
      have := e (1 + k) (by omega)
      rw [← Nat.add_assoc, ← Nat.add_assoc] at this
      exact this.trans (H.2.2 k hk)
end S69
