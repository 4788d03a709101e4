/-! ===== the code of a text of statements ===== -/
section S77
variable {T : List Int32}
theorem rex_CE (hT : T.length ≤ 40) {s : RS} (hp : s.1 ≤ T.length) (hl : s.2.1.length ≤ s.1) (h : (rex T s).1 = true) : ∃ n, CE n s (rex T s).2 ∧ n + s.1 ≤ (rex T s).2.1 ∧ (rex T s).2.1 ≤ T.length := by
  have e := rex_E hT hp
  rw [show rex T s = (true, (rex T s).2) by rw [← h]] at e
  have hm := rR_mono 400 0 s true (rex T s).2 e
  obtain ⟨n, a, b⟩ := rR_CE hT 400 0 s (rex T s).2 e hp (by decide) (by rw [if_neg (by decide)]; omega)
  rw [if_neg (by decide)] at b
  exact ⟨n, a, by omega, hm.2.1 hp⟩
theorem rst2_CE (hT : T.length ≤ 40) {s : RS} {sg : Int32} {l : Nat} (hl26 : l < 26) (hp : s.1 ≤ T.length) (hl : s.2.1.length ≤ s.1) (h : (rst2 T sg (Int32.ofNat l) s).1 = true) : ∃ n, CE n s (rst2 T sg (Int32.ofNat l) s).2 ∧ n + s.1 ≤ (rst2 T sg (Int32.ofNat l) s).2.1 + 1 := by
  unfold rst2 at h ⊢
  by_cases hb : (rex T s).1 = true
  · rw [if_pos hb]
    obtain ⟨n, a, b, c⟩ := rex_CE hT hp hl hb
    have hn := CE_len a
    have o12 : okS 12 (Int32.ofNat l) := Or.inr (Or.inl ⟨Or.inr (Or.inr (Or.inl rfl)), l, hl26, rfl⟩)
    have o13 : okS 13 (Int32.ofNat l) := Or.inr (Or.inl ⟨Or.inr (Or.inr (Or.inr rfl)), l, hl26, rfl⟩)
    dsimp only
    by_cases c1 : sg = 61
    · rw [if_pos c1]
      exact ⟨n + 1 + 0, CE_trans (CE_trans a (CE_re (by omega) o12)) (CE_0 rfl rfl), by show n + 1 + 0 + s.1 ≤ (rex T s).2.1 + 1; omega⟩
    · rw [if_neg c1]
      by_cases c2 : v_126 (rex T s).2.2.2.2.2.1 (Int32.ofNat l) = 0
      · rw [if_pos c2]
        exact ⟨n + 1 + 0, CE_trans (CE_trans a (CE_re (by omega) o13)) (CE_0 rfl rfl), by show n + 1 + 0 + s.1 ≤ (rex T s).2.1 + 1; omega⟩
      · rw [if_neg c2]
        exact ⟨n + 1 + 0, CE_trans (CE_trans a (CE_re (by omega) o13)) (CE_0 rfl rfl), by show n + 1 + 0 + s.1 ≤ (rex T s).2.1 + 1; omega⟩
  · rw [if_neg hb] at h; cases h
theorem rst_CE (hT : T.length ≤ 40) {s : RS} (hp : s.1 ≤ T.length) (hl : s.2.1.length ≤ s.1) (h : (rst T s).1 = true) : ∃ n, CE n (rstart s) (rst T s).2 ∧ n + s.1 ≤ (rst T s).2.1 + 1 := by
  unfold rst at h ⊢
  have let26 : ∀ x, sgn T s.1 = x → ¬ x = -1 → ∃ l, l < 26 ∧ cat T s.1 - 97 = Int32.ofNat l := by
    intro x hx hn
    unfold sgn at hx
    by_cases hL : isL (cat T s.1) = true
    · obtain ⟨l, hl2, -, e2⟩ := L_nat hL
      exact ⟨l, hl2, e2⟩
    · rw [if_neg hL] at hx; exact absurd hx.symm hn
  by_cases c1 : sgn T s.1 = 61
  · rw [if_pos c1] at h ⊢
    have hlt := sgn_lt (Or.inl c1)
    obtain ⟨l, hl2, e2⟩ := let26 61 c1 (by decide)
    rw [e2] at h ⊢
    obtain ⟨n, a, b⟩ := rst2_CE hT hl2 (s := ra (ra (rstart s))) hlt (by show s.2.1.length ≤ s.1 + 1 + 1; omega) h
    have b' : n + (s.1 + 1 + 1) ≤ (rst2 T 61 (Int32.ofNat l) (ra (ra (rstart s)))).2.1 + 1 := b
    exact ⟨0 + 0 + n, CE_trans (CE_trans CE_ra CE_ra) a, by omega⟩
  rw [if_neg c1] at h ⊢
  by_cases c2 : sgn T s.1 = 33
  · rw [if_pos c2] at h ⊢
    have hlt := sgn_lt (Or.inr c2)
    obtain ⟨l, hl2, e2⟩ := let26 33 c2 (by decide)
    rw [e2] at h ⊢
    have c0 : CE 1 (ra (ra (rstart s))) (re (ra (ra (rstart s))) 11 (Int32.ofNat l)) := CE_re (by show s.2.1.length < 41; omega) (Or.inr (Or.inl ⟨Or.inr (Or.inl rfl), l, hl2, rfl⟩))
    have hc := CE_len c0
    have hc' : (re (ra (ra (rstart s))) 11 (Int32.ofNat l)).2.1.length = s.2.1.length + 1 := hc
    obtain ⟨n, a, b⟩ := rst2_CE hT hl2 (s := re (ra (ra (rstart s))) 11 (Int32.ofNat l)) hlt (by show (re (ra (ra (rstart s))) 11 (Int32.ofNat l)).2.1.length ≤ s.1 + 1 + 1; omega) h
    have b' : n + (s.1 + 1 + 1) ≤ (rst2 T 33 (Int32.ofNat l) (re (ra (ra (rstart s))) 11 (Int32.ofNat l))).2.1 + 1 := b
    exact ⟨0 + 0 + 1 + n, CE_trans (CE_trans (CE_trans CE_ra CE_ra) c0) a, by omega⟩
  rw [if_neg c2] at h ⊢
  obtain ⟨n, a, b, c⟩ := rex_CE hT (s := rstart s) hp hl h
  have hn := CE_len a
  have hn' : (rex T (rstart s)).2.2.1.length = s.2.1.length + n := hn
  have b' : n + s.1 ≤ (rex T (rstart s)).2.1 := b
  exact ⟨n + 1, CE_trans a (CE_re (by omega) (Or.inr (Or.inr (Or.inr (Or.inr (Or.inr (Or.inr (Or.inr (Or.inr rfl))))))))), by show n + 1 + s.1 ≤ (rex T (rstart s)).2.1 + 1; omega⟩
theorem rss_ok (hT : T.length ≤ 40) : ∀ (f : Nat) (s : RS), s.1 ≤ T.length → s.2.1.length ≤ s.1 → (∀ a ∈ s.2.1, okS a.1 a.2.1) → (rss T f s).1 = true → ∀ a ∈ (rss T f s).2.2.1, okS a.1 a.2.1 := by
  intro f
  induction f with
  | zero => intro s _ _ _ h; cases h
  | succ f ih =>
    intro s hp hl ho h
    simp only [rss] at h ⊢
    by_cases hb : (rst T s).1 = true
    · simp only [hb, if_true] at h ⊢
      obtain ⟨n, a, b⟩ := rst_CE hT hp hl hb
      have hn := CE_len a
      have hn' : (rst T s).2.2.1.length = s.2.1.length + n := hn
      have ho' : ∀ x ∈ (rst T s).2.2.1, okS x.1 x.2.1 := by
        obtain ⟨C, c1, -, c3, -⟩ := a
        intro x hx
        rw [c1] at hx
        rcases List.mem_append.mp hx with h | h
        · exact ho x h
        · exact (c3 x h).1
      by_cases c : cat T (rst T s).2.1 = 59
      · simp only [c, if_true] at h ⊢
        have hlt := cat_eq c (by decide)
        exact ih (ra (rst T s).2) hlt (by show (rst T s).2.2.1.length ≤ (rst T s).2.1 + 1; omega) ho' h
      · simp only [c, if_false] at h ⊢
        exact ho'
    · simp only [hb] at h; cases h
end S77
