/-! ===== the model's sets of rules and of queries ===== -/
section S64
variable {T : List Int32}
/-- what reading a text's sets leaves -/
def rgP (q : Nat) : Prop := q = 1076 ∨ q = 1083 ∨ q = 1084 ∨ q = 1085 ∨ q = 1086 ∨ q = 1127
theorem m_cat {m : Hp} {i : Nat} (H : ld T m) (hi : i < T.length) : m 1127 i = cat T i := by
  rw [H.2.2 i hi]; unfold cat; rw [if_pos hi]
theorem v162_bt {x : Int32} {j : Nat} (h : isL x = true) (hj : j < 32) : bt (v_162 x) j = decide (x = Int32.ofNat (97 + j)) := by
  obtain ⟨l, hl, e1, -⟩ := L_nat h
  rw [v162_L hl e1, bt_one (by omega), e1]
  simp only [u_inj (show 97 + l < 2147483648 by omega) (show 97 + j < 2147483648 by omega), decide_eq_decide]
  omega
theorem m_rulesL {c : Nat} (hc : c < 16) (hl : ∀ i, i < T.length → (i = 0 ∨ cat T (i - 1) = 59) → isL (cat T i) = true) : ∀ (k i : Nat) (x : Int32) (m : Hp) (N : Nat), i + k = T.length → ld T m → k < N → ∃ y m', w_lp (fun (t : Int32 × Int32 × Hp) => l_163_96 (Int32.ofNat c) t.1 t.2.1 t.2.2) N (x, Int32.ofNat i, m) = some (y, m') ∧ (∀ j, j < 32 → bt y j = (bt x j || lbt T i T.length j)) ∧ (∀ j, j < 32 → bt (m' 1083 c) j = (bt (m 1083 c) j || dlt T i T.length j)) ∧ m' 1084 c = m 1084 c ∧ rfm c m m' := by
  intro k
  induction k with
  | zero =>
    intro i x m N hk H hN
    have e : i = T.length := by omega
    subst e
    have h40 := H.1
    refine ⟨x, m, u_once hN ?_, fun j _ => by rw [lbt_self, Bool.or_false], fun j _ => by rw [dlt_self, Bool.or_false], rfl, rfm_refl⟩
    show l_163_96 _ _ _ m = _
    unfold l_163_96
    rw [H.2.1, if_neg]
    exact fun hh => by have := (u_lt (by omega) (by omega)).mp hh; omega
  | succ k ih =>
    intro i x m N hk H hN
    obtain ⟨N, rfl⟩ : ∃ q, N = q + 1 := ⟨N - 1, by omega⟩
    have h40 := H.1
    have hi : i < T.length := by omega
    have e0 := m_cat H hi
    have hlt : Int32.ofNat i < m 1076 66 := by rw [H.2.1]; exact (u_lt (by omega) (by omega)).mpr hi
    have hstep : ∃ a d, l_163_96 (Int32.ofNat c) x (Int32.ofNat i) m = some (.inl (x ||| a, Int32.ofNat (i + 1), w_up m 1083 c (m 1083 c ||| d))) ∧ (∀ j, j < 32 → bt a j = lb T i j) ∧ (∀ j, j < 32 → bt d j = dl T i j) := by
      refine ⟨if isL (cat T i) = true then v_162 (cat T i) else 0, if (i = 0 ∨ cat T (i - 1) = 59) then v_162 (cat T i) else 0, ?_, ?_, ?_⟩
      · unfold l_163_96 q_163_114
        rw [if_pos hlt]
        have ea : (if v_148 (cat T i) = 0 then (0 : Int32) else v_162 (cat T i)) = (if isL (cat T i) = true then v_162 (cat T i) else 0) := by
          rw [m_148]
          cases isL (cat T i) <;> rfl
        by_cases hz : i = 0
        · subst hz
          have ez : Int32.ofNat 0 = 0 := rfl
          simp (disch := omega) only [u_cl, u_ix, w_gd, ite_self, w_let, u_S, e0, ea, if_pos ez, true_or, if_true]
        · have ez : ¬ Int32.ofNat i = 0 := fun h => hz ((u_inj (b := 0) (by omega) (by omega)).mp h)
          have e1 : Int32.ofNat i - 1 = Int32.ofNat (i - 1) := u_subL (a := i) (n := 1) (by omega)
          have e2 := m_cat H (show i - 1 < T.length by omega)
          simp (disch := omega) only [e1, u_cl, u_ix, w_gd, ite_self, w_let, u_S, e0, ea, e2, if_neg ez, Bool.and_self, hz, false_or]
      · intro j hj
        by_cases hL : isL (cat T i) = true
        · rw [if_pos hL, v162_bt hL hj]; unfold lb; rw [hL, Bool.true_and]
        · rw [if_neg hL, bt_zero, lb_no hL]
      · intro j hj
        unfold dl
        by_cases hb : i = 0 ∨ cat T (i - 1) = 59
        · rw [if_pos hb, v162_bt (hl i hi hb) hj, decide_eq_true hb, Bool.and_true]; unfold lb; rw [hl i hi hb, Bool.true_and]
        · rw [if_neg hb, bt_zero, decide_eq_false hb, Bool.and_false]
    obtain ⟨a, d, hst, ha, hd⟩ := hstep
    have hf : rfm c m (w_up m 1083 c (m 1083 c ||| d)) := rfm_c (Or.inl rfl)
    obtain ⟨y, m', a1, a2, a3, a4, a5⟩ := ih (i + 1) (x ||| a) _ N (by omega) (ld_rfm H hf) (by omega)
    refine ⟨y, m', ?_, fun j hj => ?_, fun j hj => ?_, ?_, rfm_trans hf a5⟩
    · simp only [w_lp, hst]; exact a1
    · rw [a2 j hj, bt_or, ha j hj, lbt_add (Nat.le_succ i) (show i + 1 ≤ T.length by omega), lbt_1, Bool.or_assoc]
    · rw [a3 j hj, w_up_at, bt_or, hd j hj, dlt_add (Nat.le_succ i) (show i + 1 ≤ T.length by omega), dlt_1, Bool.or_assoc]
    · rw [a4, w_up_q (by decide)]
/-- a text with a question, an effect or a change in it -/
def opn (T : List Int32) (n : Nat) : Bool := anyb (fun i => decide (cat T i = 63 ∨ cat T i = 64 ∨ cat T i = 33)) n
theorem opn_S {n : Nat} : opn T (n + 1) = (opn T n || decide (cat T n = 63 ∨ cat T n = 64 ∨ cat T n = 33)) := rfl
theorem m_open {c : Nat} {m : Hp} (hc : c < 16) (H : ld T m) (h0 : m 1086 c = 0) : w_lp (fun (t : Int32 × Hp) => l_163_25 (Int32.ofNat c) t.1 t.2) w_N (0, m) = some (w_up m 1086 c (ofB (opn T T.length))) := by
  have h40 := H.1
  rw [show ((0, m) : Int32 × Hp) = (Int32.ofNat 0, w_up m 1086 c (ofB (opn T 0))) by rw [show ofB (opn T 0) = m 1086 c by rw [h0]; rfl, w_up_self]; rfl]
  refine u_for (N := w_N) (fun i => (Int32.ofNat i, w_up m 1086 c (ofB (opn T i)))) T.length (by unfold w_N; omega) ?_ ?_
  · intro i hi
    have e0 := m_cat H hi
    simp (disch := omega) only [l_163_25, w_up_q, w_up_at, H.2.1, u_lt, hi, if_true, u_ix, u_cl, w_gd, e0, w_let, u_S, w_up_up, ite_self, Bool.and_self]
    rw [opn_S]
    have nar : ∀ b : Bool, j_nar 52 (ofB b) = ofB b := by decide
    have e : (if ofB (opn T i) = 0 then (if cat T i = 63 then (1 : Int32) else if cat T i = 64 then 1 else if cat T i = 33 then 1 else 0) else 1) = ofB (opn T i || decide (cat T i = 63 ∨ cat T i = 64 ∨ cat T i = 33)) := by
      by_cases b : opn T i = true
      · rw [b]; rfl
      · have b' : opn T i = false := by simpa using b
        rw [b', if_pos (by rfl)]
        by_cases c1 : cat T i = 63
        · rw [c1]; rfl
        · by_cases c2 : cat T i = 64
          · rw [c2]; rfl
          · by_cases c3 : cat T i = 33
            · rw [c3]; rfl
            · rw [if_neg c1, if_neg c2, if_neg c3, decide_eq_false (fun h => h.elim c1 (fun h => h.elim c2 c3))]; rfl
    rw [e, nar]
  · simp (disch := omega) only [l_163_25, w_up_q, H.2.1, u_lt, Nat.lt_irrefl, if_false]
end S64
