/-! ===== the model's sets of a text are the class's ===== -/
section S62
variable {T : List Int32}
theorem m_164L {c : Nat} (hc : c < 16) : ∀ (f : Nat) (s : RS) (m : Hp) (N : Nat), ma T m s.1 → sts m c s.2.2.2.2.1 s.2.2.2.2.2.1 s.2.2.2.2.2.2 → knI s → (rss T f s).1 = true → ¬ (rss T f s).2.1 < T.length → f + 1 ≤ N → ∃ m', w_lp (fun (t : Int32 × Hp) => l_164_2 (Int32.ofNat c) t.1 t.2) N (s.2.2.2.1, m) = some m' ∧ sts m' c (rss T f s).2.2.2.2.2.1 (rss T f s).2.2.2.2.2.2.1 (rss T f s).2.2.2.2.2.2.2 ∧ rfm c m m' := by
  intro f
  induction f with
  | zero => intro s m N _ _ _ h; cases h
  | succ f ih =>
    intro s m N H hs hk h1 h2 hN
    obtain ⟨N, rfl⟩ : ∃ k, N = k + 1 := ⟨N - 1, by omega⟩
    have h40 := H.1.1
    obtain ⟨r1, r2, r3, -⟩ := rst_scan h40 H.2.2
    by_cases hb : (rst T s).1 = true
    · simp only [rss, hb, if_true] at h1 h2 ⊢
      by_cases c1 : cat T (rst T s).2.1 = 59
      · simp only [c1, if_true] at h1 h2 ⊢
        have hlt := cat_eq c1 (by decide)
        obtain ⟨m1, a1, a2, a3, a4, a5, a6⟩ := m_164s hc H hs hk hb (Or.inr c1)
        obtain ⟨m2, b1, b2, b3⟩ := ih (ra (rst T s).2) m1 N ⟨a2, a3, hlt⟩ a4 a6 h1 h2 (by omega)
        refine ⟨m2, ?_, b2, rfm_trans a5 b3⟩
        simp only [w_lp, a1]
        exact b1
      · simp only [c1, if_false] at h1 h2 ⊢
        have e : (rst T s).2.1 = T.length := by omega
        obtain ⟨m1, a1, a2, a3, a4, a5, a6⟩ := m_164s hc H hs hk hb (Or.inl e)
        refine ⟨m1, ?_, a4, a5⟩
        simp only [w_lp, a1]
        refine u_once (by omega) ?_
        show l_164_2 _ _ m1 = _
        unfold l_164_2
        rw [if_neg]
        rw [a3, a2.2.1]
        exact fun hh => by have := (u_lt (by omega) (by omega)).mp hh; omega
    · simp only [rss, hb] at h1
      cases h1
theorem m_164 {c : Nat} {m : Hp} (hc : c < 16) (H : ma T m 0) (hs : sts m c 0 0 0) (h1 : (rdA T 0).1 = true) (h2 : ¬ (rdA T 0).2.1 < T.length) : ∃ m', p_164 m (Int32.ofNat c) = some m' ∧ sts m' c (rdA T 0).2.2.2.2.2.1 (rdA T 0).2.2.2.2.2.2.1 (rdA T 0).2.2.2.2.2.2.2 ∧ rfm c m m' := by
  have e : rdA T 0 = rss T 40 (0, [], 0, 0, 0, 0, 0) := by
    unfold rdA; rw [if_neg (by decide : ¬ (0 : Int32) = 1), if_neg (by decide : ¬ (0 : Int32) = 2)]
  rw [e] at h1 h2 ⊢
  exact m_164L hc 40 (0, [], 0, 0, 0, 0, 0) m w_N H hs (fun j _ hh => by rw [show bt ((0, [], 0, 0, 0, 0, 0) : RS).2.2.2.1 j = bt 0 j from rfl, bt_zero] at hh; cases hh) h1 h2 (by decide)
end S62
