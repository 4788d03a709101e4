/-! ===== the model's statements: all of a text ===== -/
section S9a
variable {T : List Int32} {c qr : Nat} {p : DP} {fe : Nat → Option VL} {us : Int32}
/-- defines are known, uses grow -/
theorem rst_gr (hT : T.length ≤ 40) {s : RS} (hp : s.1 ≤ T.length) (h : (rst T s).1 = true) (hdk : ∀ j, j < 32 → bt s.2.2.2.2.1 j = true → bt s.2.2.2.1 j = true) : (∀ j, j < 32 → bt (rst T s).2.2.2.2.2.1 j = true → bt (rst T s).2.2.2.2.1 j = true) ∧ ∀ j, j < 32 → bt s.2.2.2.2.2.2 j = true → bt (rst T s).2.2.2.2.2.2.2 j = true := by
  obtain ⟨p1, s1, q1, q2, q3, q4, q5, q6, q7, q8, q9, qA, qB, qC⟩ := rst_US hT hp h
  have u1 : ∀ j, j < 32 → bt s.2.2.2.2.2.2 j = true → bt s1.2.2.2.2.2.2 j = true := fun j hj hb => by rw [q9 j hj, hb]; rfl
  by_cases c1 : sgn T s.1 = 61
  · rw [qA c1]
    refine ⟨fun j hj hb => ?_, u1⟩
    have hb' : bt (s.2.2.2.2.1 ||| (1 <<< ((cat T s.1 - 97) &&& 31))) j = true := hb
    show bt (s.2.2.2.1 ||| (1 <<< ((cat T s.1 - 97) &&& 31))) j = true
    rw [bt_or] at hb' ⊢
    cases hx : bt s.2.2.2.2.1 j with
    | true => rw [hdk j hj hx]; rfl
    | false => rw [hx, Bool.false_or] at hb'; rw [hb', Bool.or_true]
  by_cases c2 : sgn T s.1 = 33
  · rw [qB c2]
    by_cases hv : v_126 s.2.2.2.2.1 (cat T s.1 - 97) = 0
    · rw [if_pos hv]
      refine ⟨fun j hj hb => ?_, fun j hj hb => ?_⟩
      · show bt (s.2.2.2.1 ||| (1 <<< ((cat T s.1 - 97) &&& 31))) j = true
        rw [bt_or, hdk j hj hb]; rfl
      · show bt (s1.2.2.2.2.2.2 ||| (1 <<< ((cat T s.1 - 97) &&& 31))) j = true
        rw [bt_or, u1 j hj hb]; rfl
    · rw [if_neg hv]
      refine ⟨fun j hj hb => ?_, u1⟩
      show bt (s.2.2.2.1 ||| (1 <<< ((cat T s.1 - 97) &&& 31))) j = true
      rw [bt_or, hdk j hj hb]; rfl
  · rw [qC c1 c2]
    exact ⟨fun j hj hb => hdk j hj hb, u1⟩
theorem rss_gr (hT : T.length ≤ 40) : ∀ (f : Nat) (s : RS), s.1 ≤ T.length → (rss T f s).1 = true → (∀ j, j < 32 → bt s.2.2.2.2.1 j = true → bt s.2.2.2.1 j = true) → ∀ j, j < 32 → bt s.2.2.2.2.2.2 j = true → bt (rss T f s).2.2.2.2.2.2.2 j = true := by
  intro f
  induction f with
  | zero => intro s _ h; cases h
  | succ f ih =>
    intro s hp h hdk j hj hb
    simp only [rss] at h ⊢
    by_cases h1 : (rst T s).1 = true
    · rw [if_pos h1] at h ⊢
      obtain ⟨g1, g2⟩ := rst_gr hT hp h1 hdk
      by_cases h2 : cat T (rst T s).2.1 = 59
      · rw [if_pos h2] at h ⊢
        have hlt := cat_eq h2 (by decide)
        exact ih (ra (rst T s).2) hlt h g1 j hj (g2 j hj hb)
      · rw [if_neg h2]
        exact g2 j hj hb
    · rw [if_neg h1] at h; cases h
theorem rss_C (hT : T.length ≤ 40) : ∀ (f : Nat) (s : RS), s.1 ≤ T.length → s.2.1.length ≤ s.1 → (rss T f s).1 = true → ∃ C, (rss T f s).2.2.1 = s.2.1 ++ C := by
  intro f
  induction f with
  | zero => intro s _ _ h; cases h
  | succ f ih =>
    intro s hp hl h
    simp only [rss] at h ⊢
    by_cases hb : (rst T s).1 = true
    · simp only [hb, if_true] at h ⊢
      obtain ⟨n, a, b⟩ := rst_CE hT hp hl hb
      have hn := CE_len a
      have hn' : (rst T s).2.2.1.length = s.2.1.length + n := hn
      obtain ⟨C, c1, -⟩ := a
      have c1' : (rst T s).2.2.1 = s.2.1 ++ C := c1
      by_cases c : cat T (rst T s).2.1 = 59
      · simp only [c, if_true] at h ⊢
        have hlt := cat_eq c (by decide)
        obtain ⟨C2, e2⟩ := ih (ra (rst T s).2) hlt (by show (rst T s).2.2.1.length ≤ (rst T s).2.1 + 1; omega) h
        refine ⟨C ++ C2, ?_⟩
        rw [e2]
        show (rst T s).2.2.1 ++ C2 = _
        rw [c1', List.append_assoc]
      · simp only [c, if_false] at h ⊢
        exact ⟨C, c1'⟩
    · simp only [hb] at h; cases h
theorem m_208L (hq : qres qr) (hc : c < 16) (hT : T.length ≤ 40) : ∀ (f : Nat) (s : RS) (m : Hp) (N : Nat) (e : Nat → Option VL) (d : DR), s.1 ≤ T.length → s.2.1.length ≤ s.1 → (rss T f s).1 = true → ¬ (rss T f s).2.1 < T.length → (∀ j, j < 32 → bt (rss T f s).2.2.2.2.2.2.2 j = true → bt us j = true) → (∀ j, j < 32 → bt s.2.2.2.2.1 j = true → bt s.2.2.2.1 j = true) → SB T c qr p e fe us m s.1 s.2.2.2.1 d → d.1 ≤ s.1 → f + 1 ≤ N → ∃ C, (rss T f s).2.2.1 = s.2.1 ++ C ∧ ∃ r, xr p C (e, [], d) = some r ∧ r.2.2.2.2.1 ≤ 40 ∧ ∃ m', w_lp (fun (h : Hp) => l_208_0 qr h) N m = some m' ∧ evg c qr m m' ∧ (r.1 = 0 → SB T c qr p r.2.2.1 fe us m' (T.length + 1) (rss T f s).2.2.2.2.1 r.2.2.2.2) ∧ (¬ r.1 = 0 → m' 1076 75 = r.1 ∧ m' 1076 76 = r.2.1 ∧ dm m' c p r.2.2.2.2) := by
  intro f
  induction f with
  | zero => intro s m N e d _ _ h; cases h
  | succ f ih =>
    intro s m N e d hp hl h hend hus hdk H hd hN
    obtain ⟨N, rfl⟩ : ∃ k, N = k + 2 := ⟨N - 2, by omega⟩
    have h1 : (rst T s).1 = true := by
      simp only [rss] at h
      by_cases h1 : (rst T s).1 = true
      · exact h1
      · rw [if_neg h1] at h; cases h
    obtain ⟨z1, z2, z3, -⟩ := rst_scan hT hp
    have hlt := z3 h1
    obtain ⟨g1, g2⟩ := rst_gr hT hp h1 hdk
    obtain ⟨n, b1, b2⟩ := rst_CE hT hp hl h1
    obtain ⟨C', w1, w2, w3, -⟩ := b1
    have errN : ∀ m', ¬ m' 1076 75 = 0 → w_lp (fun (h : Hp) => l_208_0 qr h) (N + 1) m' = some m' := by
      intro m' h
      refine u_once (by omega) ?_
      show l_208_0 qr m' = _
      unfold l_208_0
      by_cases hh : m' 1076 67 < m' 1076 66
      · rw [if_pos hh, if_neg h]
      · rw [if_neg hh]
    have conv : ∀ C (r : Int32 × PM), (rst T s).2.2.1 = s.2.1 ++ C → xq p C (e, [], d) = some r → xr p C (e, [], d) = some (r.1, if r.1 = 0 then 0 else Int32.ofNat s.1, r.2) := by
      intro C r x1 x2
      have w1' : (rst T s).2.2.1 = s.2.1 ++ C' := w1
      have eC : C = C' := by rw [w1'] at x1; exact (List.append_cancel_left x1).symm
      rw [xr_xq C (e, [], d) (st := Int32.ofNat s.1) (fun a ha => by rw [eC] at ha; exact (w3 a ha).2), x2]
    simp only [rss] at h hend hus ⊢
    rw [if_pos h1] at h hend hus ⊢
    by_cases h2 : cat T (rst T s).2.1 = 59
    · rw [if_pos h2] at h hend hus ⊢
      have hlt2 := cat_eq h2 (by decide)
      have hus1 : ∀ j, j < 32 → bt (rst T s).2.2.2.2.2.2.2 j = true → bt us j = true := fun j hj hb => hus j hj (rss_gr hT f (ra (rst T s).2) hlt2 h g1 j hj hb)
      obtain ⟨C, x1, r, x2, x3, m1, a1, a2, a3, a4⟩ := st_stm hq hc hT (by omega) hl h1 (Or.inr h2) hus1 hdk H hd
      have hlen : (rst T s).2.2.1.length ≤ (rst T s).2.1 + 1 := by
        have w1' : (rst T s).2.2.1 = s.2.1 ++ C' := w1
        rw [w1', List.length_append, w2]; omega
      have xr1 := conv C r x1 x2
      by_cases e0 : r.1 = 0
      · obtain ⟨y1, y2⟩ := a3 e0
        obtain ⟨C2, u1, r2, u2, u2b, m2, u3, u4, u5, u6⟩ := ih (ra (rst T s).2) m1 (N + 1) r.2.1 r.2.2.2 hlt2 hlen h hend hus g1 y2 (by show r.2.2.2.1 ≤ (rst T s).2.1 + 1; omega) (by omega)
        have ePM : r.2 = (r.2.1, ([] : List VL), r.2.2.2) := by rw [← y1]
        refine ⟨C ++ C2, ?_, r2, ?_, u2b, m2, ?_, evg_trans a2 u4, u5, u6⟩
        · rw [u1]
          show (rst T s).2.2.1 ++ C2 = _
          rw [x1, List.append_assoc]
        · rw [xr_app, xr1]
          simp only [e0, if_true]
          rw [ePM]
          exact u2
        · simp only [w_lp, a1]
          exact u3
      · obtain ⟨y1, y2, y3⟩ := a4 e0
        obtain ⟨C2, u1⟩ : ∃ C2, (rss T f (ra (rst T s).2)).2.2.1 = (rst T s).2.2.1 ++ C2 := rss_C hT f (ra (rst T s).2) hlt2 hlen h
        refine ⟨C ++ C2, ?_, (r.1, Int32.ofNat s.1, r.2), ?_, by show r.2.2.2.1 ≤ 40; omega, m1, ?_, a2, fun h => absurd h e0, fun _ => ⟨y1, y2, y3⟩⟩
        · rw [u1, x1, List.append_assoc]
        · rw [xr_app, xr1]
          simp only [e0, if_false]
        · simp only [w_lp, a1]
          exact errN m1 (by rw [y1]; exact e0)
    · rw [if_neg h2] at h hend hus ⊢
      obtain ⟨C, x1, r, x2, x3, m1, a1, a2, a3, a4⟩ := st_stm hq hc hT (by omega) hl h1 (Or.inl hend) hus hdk H hd
      have xr1 := conv C r x1 x2
      have hend' : ¬ (rst T s).2.1 < T.length := hend
      have hbT : (rst T s).2.1 = T.length := by omega
      by_cases e0 : r.1 = 0
      · obtain ⟨y1, y2⟩ := a3 e0
        refine ⟨C, x1, (r.1, 0, r.2), by rw [xr1]; simp only [e0, if_true], by show r.2.2.2.1 ≤ 40; omega, m1, ?_, a2, fun _ => by rw [hbT] at y2; exact y2, fun h => absurd e0 h⟩
        simp only [w_lp, a1]
        have hst : l_208_0 qr m1 = some (.inr m1) := by
          unfold l_208_0
          have hh : ¬ m1 1076 67 < m1 1076 66 := by
            rw [y2.2.2.2.2.1, y2.1.2.1]
            intro hh
            have := (u_lt (by omega) (by omega)).mp hh
            omega
          rw [if_neg hh]
        simp only [hst]
      · obtain ⟨y1, y2, y3⟩ := a4 e0
        refine ⟨C, x1, (r.1, Int32.ofNat s.1, r.2), by rw [xr1]; simp only [e0, if_false], by show r.2.2.2.1 ≤ 40; omega, m1, ?_, a2, fun h => absurd h e0, fun _ => ⟨y1, y2, y3⟩⟩
        simp only [w_lp, a1]
        exact errN m1 (by rw [y1]; exact e0)
end S9a
