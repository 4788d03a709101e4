/-! ===== the model's machine: flushing ===== -/
section S83
variable {m m' : Hp} {p : DP}
theorem apf_trans {a b c : Hp} (x : apf a b) (y : apf b c) : apf a c := ⟨w_fr_trans x.1 y.1, fun k h1 h2 h3 h4 => (y.2 k h1 h2 h3 h4).trans (x.2 k h1 h2 h3 h4)⟩
theorem apf_refl : apf m m := ⟨w_fr_refl _ _, fun _ _ _ _ _ => rfl⟩
theorem m_202L {O' : List (Int32 × Nat)} {n : Int32} (hlow : ∀ a O'', O' = a :: O'' → v_201 a.1 < n) : ∀ (Q : List (Int32 × Nat)) (P : PM) (m : Hp) (N : Nat) (r : Int32 × PM), (∀ a ∈ Q, isO a.1 ∧ ¬ v_201 a.1 < n) → mk m (Q ++ O') → (Q ++ O').length ≤ 80 → m 1076 70 = Int32.ofNat (Q ++ O').length → mvs m P.2.1 → P.2.1.length ≤ 27 → m 1076 72 = Int32.ofNat P.2.1.length → m 1076 75 = 0 → m 1076 76 < 0 → fls p Q P = some r → Q.length < N → ∃ m', w_lp (fun (s : Hp) => l_202_0 n s) N m = some m' ∧ apf m m' ∧ (r.1 = 0 → mk m' O' ∧ m' 1076 70 = Int32.ofNat O'.length ∧ mvs m' r.2.2.1 ∧ m' 1076 72 = Int32.ofNat r.2.2.1.length ∧ m' 1076 75 = 0 ∧ m' 1076 76 < 0) ∧ (¬ r.1 = 0 → m' 1076 75 = r.1 ∧ m' 1076 76 = m 1076 80) ∧ ∃ k, k ≤ (Q ++ O').length ∧ m' 1076 70 = Int32.ofNat k := by
  intro Q
  induction Q with
  | nil =>
    intro P m N r _ HO hl h70 HV hV h72 h75 h76 hr hN
    cases hr
    refine ⟨m, u_once (by omega) ?_, apf_refl, fun _ => ⟨HO, h70, HV, h72, h75, h76⟩, fun h => absurd rfl h, O'.length, Nat.le_refl _, h70⟩
    show l_202_0 n m = _
    unfold l_202_0
    rw [if_pos h75]
    cases O' with
    | nil =>
      have h70' : m 1076 70 = 0 := h70
      rw [h70', if_pos (by decide)]
    | cons a O'' =>
      have hl' : O''.length + 1 ≤ 80 := hl
      have h1 : ¬ Int32.ofNat (O''.length + 1) ≤ 0 := fun e => by
        have := (u_leL (a := O''.length + 1) (n := 0) (by omega) (by decide)).mp e
        omega
      have e1 : Int32.ofNat (O''.length + 1) - 1 = Int32.ofNat O''.length := by
        have := u_subL (a := O''.length + 1) (n := 1) (by omega)
        exact this
      have hk : m 1128 O''.length = a.1 := HO.1
      have h70' : m 1076 70 = Int32.ofNat (O''.length + 1) := h70
      rw [h70', if_neg h1, e1, u_ix (by omega) (by decide), u_cl (by omega), hk, if_pos (hlow a O'' rfl)]
      rfl
  | cons a Q ih =>
    intro P m N r hQ HO hl h70 HV hV h72 h75 h76 hr hN
    obtain ⟨N, rfl⟩ : ∃ k, N = k + 1 := ⟨N - 1, by omega⟩
    have hN' : Q.length + 1 < N + 1 := hN
    obtain ⟨q1, q2⟩ := hQ a (List.mem_cons_self ..)
    simp only [fls] at hr
    have HO1 : mk m ((a.1, a.2) :: (Q ++ O')) := HO
    have hl' : (Q ++ O').length + 1 ≤ 80 := hl
    have h70' : m 1076 70 = Int32.ofNat ((Q ++ O').length + 1) := h70
    cases hx : xs p (ock a.1) 0 P with
    | none => rw [hx] at hr; cases hr
    | some r1 =>
      rw [hx] at hr
      obtain ⟨m1, a1, a2, a3, a4, a5, a6⟩ := m_200 (e := P.1) (V := P.2.1) (d := P.2.2) q1 HO1 (by omega) h70' HV hV h72 h75 h76 hx
      have hst : l_202_0 n m = some (.inl m1) := by
        have h1 : ¬ Int32.ofNat ((Q ++ O').length + 1) ≤ 0 := fun e => by
          have := (u_leL (a := (Q ++ O').length + 1) (n := 0) (by omega) (by decide)).mp e
          omega
        have e1 : Int32.ofNat ((Q ++ O').length + 1) - 1 = Int32.ofNat (Q ++ O').length := by
          have := u_subL (a := (Q ++ O').length + 1) (n := 1) (by omega)
          exact this
        unfold l_202_0
        rw [if_pos h75, h70', if_neg h1, e1, u_ix (by omega) (by decide), u_cl (by omega), HO1.1, if_neg q2, a1]
        rfl
      have hle : r1.2.2.1.length ≤ 27 := by
        have := (xs_st (by rcases q1 with h | h | h | h <;> (rw [h]; decide)) hx).2.2
        omega
      by_cases e0 : r1.1 = 0
      · simp only [e0, if_true] at hr
        obtain ⟨b1, b2, b3, b4⟩ := a5 e0
        obtain ⟨m2, c1, c2, c3, c4, k, k1, k2⟩ := ih r1.2 m1 N r (fun x hx => hQ x (List.mem_cons_of_mem _ hx)) a3 (by omega) a2 b1 hle b2 b3 b4 hr (by omega)
        refine ⟨m2, ?_, apf_trans a4 c2, c3, fun h => ?_, k, by show k ≤ (Q ++ O').length + 1; omega, k2⟩
        · simp only [w_lp, hst]; exact c1
        · obtain ⟨d1, d2⟩ := c4 h
          exact ⟨d1, d2.trans (a4.2 80 (by decide) (by decide) (by decide) (by decide))⟩
      · simp only [e0, if_false] at hr
        cases hr
        obtain ⟨b1, b2⟩ := a6 e0
        refine ⟨m1, ?_, a4, fun h => absurd h e0, fun _ => ⟨b1, b2⟩, (Q ++ O').length, by show (Q ++ O').length ≤ (Q ++ O').length + 1; omega, a2⟩
        simp only [w_lp, hst]
        refine u_once (by omega) ?_
        show l_202_0 n m1 = _
        unfold l_202_0
        rw [if_neg (by rw [b1]; exact e0)]
end S83
