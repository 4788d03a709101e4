/-! ===== the model's faults of statements ===== -/
section S54
variable {T : List Int32} {m : Hp}
theorem m_153K : ∀ (K : Nat) (t : SC) (m : Hp), sc T m t → 41 ≤ K + t.1 → ∀ N, K ≤ N → ∃ m', w_lp (fun (x : Int32 × Hp) => l_153_5 x.1 x.2) N (ofB t.2.2, m) = some (ofB (scF T K t).1, m') ∧ ld T m' ∧ m' 1076 67 = Int32.ofNat (scF T K t).2 ∧ (scF T K t).2 ≤ T.length ∧ sfr m m' := by
  intro K
  induction K with
  | zero =>
    intro t m H hK
    have := H.1.1; have := H.2.2.1
    omega
  | succ K ih =>
    intro t m H hK N hN
    obtain ⟨N, rfl⟩ : ∃ k, N = k + 1 := ⟨N - 1, by omega⟩
    rcases m_153 H with ⟨t', m', e1, e2, e3, e4, e5⟩ | ⟨b, p, m', e1, e2, e3, e4, e5, e6⟩
    · obtain ⟨m2, d1, d2, d3, d4, d5⟩ := ih t' m' e3 (by omega) N (by omega)
      have hF : scF T (K + 1) t = scF T K t' := by
        show (match scS T t with | .inl t' => scF T K t' | .inr e => e) = _
        rw [e1]
      rw [hF]
      refine ⟨m2, ?_, d2, d3, d4, sfr_trans e4 d5⟩
      simp only [w_lp, e2]
      exact d1
    · have hF : scF T (K + 1) t = (b, p) := by
        show (match scS T t with | .inl t' => scF T K t' | .inr e => e) = _
        rw [e1]
      rw [hF]
      exact ⟨m', u_once (Nat.succ_pos _) e2, e3, e4, e5, e6⟩
theorem m_ex {p : Nat} (H : ld T m) (hp : m 1076 67 = Int32.ofNat p) (hp2 : p ≤ T.length) : ∃ m', p_153 m = some (ofB (scF T 50 (p, [], true)).1, m') ∧ ld T m' ∧ m' 1076 67 = Int32.ofNat (scF T 50 (p, [], true)).2 ∧ (scF T 50 (p, [], true)).2 ≤ T.length ∧ sfr m m' := by
  have s1 : sfr m (w_up m 1076 70 0) := sfr_up sfr_refl (Or.inr (Or.inr ⟨rfl, Or.inr rfl⟩))
  have S : sc T (w_up m 1076 70 0) (p, [], true) := ⟨ld_sfr H s1, by rw [w_up_b (by decide)]; exact hp, hp2, w_up_at, Nat.zero_le _, trivial⟩
  obtain ⟨m', d1, d2, d3, d4, d5⟩ := m_153K 50 (p, [], true) _ S (by omega) w_N (by decide)
  exact ⟨m', d1, d2, d3, d4, sfr_trans s1 d5⟩
theorem scF_prog (hT : T.length ≤ 40) {p : Nat} (hp : p ≤ T.length) : (scF T 50 (p, [], true)).1 = true → p < (scF T 50 (p, [], true)).2 := by
  have e := ex_scan hT (s := (p, [], 0, 0, 0, 0, 0)) hp
  have e' : scF T 50 (p, [], true) = _ := e
  have hm := rR_mono 400 0 (p, [], 0, 0, 0, 0, 0) (rex T (p, [], 0, 0, 0, 0, 0)).1 (rex T (p, [], 0, 0, 0, 0, 0)).2 (rex_E hT hp)
  rw [e']
  by_cases hb : (rex T (p, [], 0, 0, 0, 0, 0)).1 = true
  · have h3 : p < (rex T (p, [], 0, 0, 0, 0, 0)).2.1 := hm.2.2 hb (by decide) (by decide) (by decide)
    rw [if_pos hb]
    split
    · intro _; exact h3
    · intro h; cases h
  · rw [if_neg hb]
    intro h; cases h
theorem m_151 {p : Nat} (H : ld T m) (hp : m 1076 67 = Int32.ofNat p) (hp2 : p ≤ T.length) : v_151 m = ofB (decide (sgn T p = 61 ∨ sgn T p = 33)) ∧ g_151 m = true := by
  obtain ⟨h40, hl, hi⟩ := H
  have hlt : (m 1076 67 + 1 < m 1076 66) ↔ p + 1 < T.length := by
    rw [hp, hl, u_S]; exact u_lt (by omega) (by omega)
  unfold v_151 g_151 sgn
  by_cases h : p + 1 < T.length
  · rw [if_pos (hlt.mpr h), if_pos (hlt.mpr h)]
    have c0 : cat T p = T.getD p 0 := by unfold cat; rw [if_pos (by omega)]
    have c1 : cat T (p + 1) = T.getD (p + 1) 0 := by unfold cat; rw [if_pos h]
    rw [hp, u_S, u_cl (by omega), u_cl (by omega), hi p (by omega), hi (p + 1) h, m_148, u_ix (by omega) (by omega), u_ix (by omega) (by omega), ← c0, ← c1]
    cases isL (cat T p) with
    | false => exact ⟨rfl, rfl⟩
    | true =>
      have o : ¬ (ofB true = 0) := by decide
      simp only [o, if_false, if_true, Bool.true_and, ite_self, and_true]
      by_cases a : cat T (p + 1) = 61
      · rw [if_pos a, decide_eq_true (Or.inl a)]; rfl
      · rw [if_neg a]
        by_cases b : cat T (p + 1) = 33
        · rw [if_pos b, decide_eq_true (Or.inr b)]; rfl
        · rw [if_neg b, decide_eq_false (fun hh => hh.elim a b)]; rfl
  · rw [if_neg (fun e => h (hlt.mp e)), if_neg (fun e => h (hlt.mp e))]
    have c1 : cat T (p + 1) = -1 := by unfold cat; rw [if_neg h]
    rw [c1]
    refine ⟨?_, rfl⟩
    rw [ite_self]; rfl
theorem m_154 (H : ld T m) (hp : m 1076 67 = 0) : ∃ m', p_154 m = some (ofB (arE T 40 0).1, m') ∧ ld T m' ∧ m' 1076 67 = Int32.ofNat (arE T 40 0).2 ∧ sfr m m' := by
  have hT := H.1
  unfold p_154
  have key : ∀ f, ∀ (p : Nat) (m : Hp) (N : Nat), ld T m → m 1076 67 = Int32.ofNat p → p ≤ T.length → 41 ≤ 2 * f + p → f + 1 < N → ∃ m', w_lp (fun (s : Int32 × Hp) => l_154_2 s.1 s.2) N (1, m) = some (ofB (arE T f p).1, m') ∧ ld T m' ∧ m' 1076 67 = Int32.ofNat (arE T f p).2 ∧ sfr m m' := by
    intro f
    induction f with
    | zero => intro p m N H hp hp2 hf; omega
    | succ f ih =>
      intro p m N H hp hp2 hf hN
      obtain ⟨N, rfl⟩ : ∃ k, N = k + 1 := ⟨N - 1, by omega⟩
      obtain ⟨v, g⟩ := m_151 H hp hp2
      have e67 : ∀ (m : Hp) z, sfr m (w_up m 1076 67 z) := fun m z => sfr_up sfr_refl (Or.inr (Or.inr ⟨rfl, Or.inl rfl⟩))
      generalize hp1 : (if sgn T p = 61 ∨ sgn T p = 33 then p + 2 else p) = p1
      have hp1' : p ≤ p1 ∧ p1 ≤ T.length := by
        rw [← hp1]
        split
        · rename_i c; exact ⟨by omega, sgn_lt c⟩
        · exact ⟨Nat.le_refl _, hp2⟩
      have eat : m 1076 67 + (if v_151 m = 0 then (0 : Int32) else 2) = Int32.ofNat p1 := by
        rw [v, hp, ← hp1]
        by_cases c : sgn T p = 61 ∨ sgn T p = 33
        · rw [decide_eq_true c, if_pos c, if_neg (by decide)]
          exact u_addL p 2
        · rw [decide_eq_false c, if_neg c, if_pos (by rfl)]
          have := u_addL p 0
          exact this
      obtain ⟨m1, d1, d2, d3, d4, d5⟩ := m_ex (m := w_up m 1076 67 (Int32.ofNat p1)) (p := p1) (ld_sfr H (e67 _ _)) w_up_at hp1'.2
      have hl : l_154_2 1 m = if (scF T 50 (p1, [], true)).1 = true then q_154_28 m1 (if (scF T 50 (p1, [], true)).2 < T.length then 1 else 0) else some (.inr (0, m1)) := by
        unfold l_154_2
        rw [if_neg (by decide), g]
        simp only [w_gd, q_154_13, w_let, eat, d1, Option.bind_some]
        cases hb : (scF T 50 (p1, [], true)).1 with
        | false => rw [if_pos (by rfl), if_neg (by decide)]
        | true =>
          have hlt2 : (m1 1076 67 < m1 1076 66) ↔ (scF T 50 (p1, [], true)).2 < T.length := by
            rw [d3, d2.2.1]; exact u_lt (by omega) (by omega)
          rw [if_neg (by decide), if_pos rfl]
          simp only [hlt2]
      have hf' : sfr m m1 := sfr_trans (e67 _ _) d5
      simp only [arE, hp1]
      by_cases hb : (scF T 50 (p1, [], true)).1 = true
      · have hpr := scF_prog hT hp1'.2 hb
        rw [if_pos hb] at hl ⊢
        by_cases hlt : (scF T 50 (p1, [], true)).2 < T.length
        · rw [if_pos hlt] at hl ⊢
          have hstep : l_154_2 1 m = some (.inl (1, w_up m1 1076 67 (Int32.ofNat ((scF T 50 (p1, [], true)).2 + 1)))) := by
            rw [hl]; unfold q_154_28
            rw [if_neg (by decide), d3, u_S]; rfl
          simp only [w_lp, hstep]
          obtain ⟨m2, f1, f2, f3, f4⟩ := ih ((scF T 50 (p1, [], true)).2 + 1) (w_up m1 1076 67 (Int32.ofNat ((scF T 50 (p1, [], true)).2 + 1))) N (ld_sfr d2 (e67 _ _)) w_up_at hlt (by omega) (by omega)
          exact ⟨m2, f1, f2, f3, sfr_trans hf' (sfr_trans (e67 _ _) f4)⟩
        · rw [if_neg hlt] at hl ⊢
          have hstep : l_154_2 1 m = some (.inl (0, w_up m1 1076 67 (Int32.ofNat (scF T 50 (p1, [], true)).2))) := by
            rw [hl]; unfold q_154_28
            rw [if_pos rfl, d3]
            have := u_addL (scF T 50 (p1, [], true)).2 0
            have e : Int32.ofNat (scF T 50 (p1, [], true)).2 + 0 = Int32.ofNat (scF T 50 (p1, [], true)).2 := this
            rw [e]; rfl
          simp only [w_lp, hstep]
          refine ⟨_, u_once (by omega) (e := (1, w_up m1 1076 67 (Int32.ofNat (scF T 50 (p1, [], true)).2))) ?_, ld_sfr d2 (e67 _ _), w_up_at, sfr_trans hf' (e67 _ _)⟩
          show l_154_2 0 _ = _
          unfold l_154_2; rw [if_pos rfl]
      · rw [if_neg hb] at hl ⊢
        exact ⟨m1, u_once (Nat.succ_pos _) hl, d2, d3, hf'⟩
  exact key 40 0 m w_N H hp (Nat.zero_le _) (by decide) (by decide)
end S54
