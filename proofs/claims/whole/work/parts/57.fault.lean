/-! ===== faultOf; the call fault on both sides ===== -/
def flP (q : Nat) : Prop := q = 1076 ∨ q = 1127 ∨ q = 1128 ∨ q = 1129
/-- what faultOf leaves -/
def ffr (m m' : Hp) : Prop := w_fr flP m m' ∧ ∀ b, b ≠ 66 → b ≠ 67 → b ≠ 70 → m' 1076 b = m 1076 b
theorem ffr_trans {a b c : Hp} (x : ffr a b) (y : ffr b c) : ffr a c := ⟨w_fr_trans x.1 y.1, fun k h1 h2 h3 => (y.2 k h1 h2 h3).trans (x.2 k h1 h2 h3)⟩
theorem ffr_s {a b : Hp} (x : sfr a b) : ffr a b := ⟨w_fr_mono x.1 (fun q hq => by unfold scP at hq; unfold flP; omega), fun k _ h2 h3 => x.2 k h2 h3⟩
section S57
variable {T : List Int32} {m : Hp}
theorem m_158 {i : Nat} {lang : Int32} (hi : i < 2) (hT : T.length ≤ 40) (hl : m 1078 i = Int32.ofNat T.length) (ht : tm m 1077 (40 * i) T) (hlang : lang = 0 ∨ lang = 1 ∨ lang = 2) : ∃ m', p_158 m (Int32.ofNat i) lang = some (rdF T lang, m') ∧ ffr m m' := by
  unfold p_158
  simp (disch := omega) only [u_ix, u_cl, w_gd, w_let, hl]
  have lp : w_lp (fun (s : Int32 × Hp) => l_158_8 (Int32.ofNat i) s.1 s.2) w_N (0, w_up m 1076 66 (Int32.ofNat T.length)) = some (w_fi (w_up m 1076 66 (Int32.ofNat T.length)) 1127 0 T.length (fun j => m 1077 (40 * i + j))) := by
    rw [show ((0, w_up m 1076 66 (Int32.ofNat T.length)) : Int32 × Hp) = (Int32.ofNat 0, w_fi (w_up m 1076 66 (Int32.ofNat T.length)) 1127 0 0 (fun j => m 1077 (40 * i + j))) by rw [w_fi0]; rfl]
    refine u_for (N := w_N) (fun k => (Int32.ofNat k, w_fi (w_up m 1076 66 (Int32.ofNat T.length)) 1127 0 k (fun j => m 1077 (40 * i + j)))) T.length (by unfold w_N; omega) ?_ ?_
    · intro k hk
      simp (disch := omega) only [l_158_8, w_fi_q, w_up_at, w_up_q, u_lt, hk, if_true, u_ix, u_cl, w_gd, u_40, w_let, u_S]
      have := w_fiS (w_up m 1076 66 (Int32.ofNat T.length)) 1127 0 k (fun j => m 1077 (40 * i + j))
      rw [Nat.zero_add] at this
      rw [this]
    · simp (disch := omega) only [l_158_8, w_fi_q, w_up_at, u_lt, Nat.lt_irrefl, if_false]
  rw [lp]
  simp only [Option.bind_some]
  generalize hg : w_up (w_fi (w_up m 1076 66 (Int32.ofNat T.length)) 1127 0 T.length (fun j => m 1077 (40 * i + j))) 1076 67 0 = g
  have fg : ffr m g := by
    rw [← hg]
    refine ⟨fun q hq => ?_, fun b h1 h2 h3 => ?_⟩
    · funext b
      rw [w_up_q (fun e => hq (Or.inl e)), w_fi_q (fun e => hq (Or.inr (Or.inl e))), w_up_q (fun e => hq (Or.inl e))]
    · rw [w_up_b h2, w_fi_q (by decide), w_up_b h1]
  have M : ma T g 0 := by
    rw [← hg]
    refine ⟨⟨hT, ?_, fun j hj => ?_⟩, w_up_at, Nat.zero_le _⟩
    · rw [w_up_b (by decide), w_fi_q (by decide), w_up_at]
    · rw [w_up_q (by decide), w_fi_at (Nat.zero_le _) (by omega), Nat.sub_zero]; exact ht j hj
  have fin : ∀ (b : Bool) (p : Nat) (m' : Hp), ma T m' p → sfr g m' → rdF T lang = (if b = true then -1 else Int32.ofNat p) → ∃ m2, q_158_42 m' (ofB b) = some (rdF T lang, m2) ∧ ffr m m2 := by
    intro b p m' H hf he
    unfold q_158_42
    refine ⟨m', ?_, ffr_trans fg (ffr_s hf)⟩
    rw [he]
    cases b with
    | true => rw [if_neg (by decide), if_pos rfl]
    | false => rw [if_pos (by rfl), if_neg (by decide), H.2.1]
  rcases hlang with rfl | rfl | rfl
  · rw [if_pos rfl]
    obtain ⟨m1, a1, a2, a3, a4⟩ := m_154 M.1 M.2.1
    rw [a1]
    simp only [Option.bind_some]
    unfold q_158_42
    refine ⟨m1, ?_, ffr_trans fg (ffr_s a4)⟩
    rw [fault0 hT, a3]
    cases (arE T 40 0).1 with
    | true => rw [if_neg (by decide), if_pos rfl]
    | false => rw [if_pos (by rfl), if_neg (by decide)]
  · rw [if_neg (by decide), if_pos rfl]
    obtain ⟨m1, a1, a2, a3⟩ := m_156 M
    rw [a1]
    simp only [Option.bind_some]
    refine fin _ _ m1 a2 a3 ?_
    unfold rdF rdA
    rw [if_pos rfl]
    have hle := a2.2.2
    generalize rqu T (0, [], 0, 0, 0, 0, 0) = r at *
    obtain ⟨b, s⟩ := r
    cases b with
    | false => simp
    | true =>
      by_cases c : s.1 < T.length
      · have : ¬ s.1 = T.length := by omega
        simp [c, this]
      · have : s.1 = T.length := by
          have h2 : s.1 ≤ T.length := hle
          omega
        simp [this]
  · rw [if_neg (by decide), if_neg (by decide)]
    obtain ⟨m1, a1, a2, a3⟩ := m_157 M
    rw [a1]
    simp only [Option.bind_some]
    refine fin _ _ m1 a2 a3 ?_
    have e : rdA T 2 = rcl T 40 0 (0, [], 0, 0, 0, 0, 0) := by
      unfold rdA; rw [if_neg (by decide : ¬ (2 : Int32) = 1), if_pos rfl]
    unfold rdF
    rw [e]
    have hle := a2.2.2
    generalize rcl T 40 0 (0, [], 0, 0, 0, 0, 0) = r at *
    obtain ⟨b, s⟩ := r
    cases b with
    | false => simp
    | true =>
      by_cases c : s.1 < T.length
      · have : ¬ s.1 = T.length := by omega
        simp [c, this]
      · have : s.1 = T.length := by
          have h2 : s.1 ≤ T.length := hle
          omega
        simp [this]
/-- both sides have typed the same -/
def hnd (h m : Hp) : Prop := ∀ i, i < 2 → ∃ T, tx h (48 + 2 * i) T ∧ m 1078 i = Int32.ofNat T.length ∧ tm m 1077 (40 * i) T
theorem goes_3 {m : Hp} {a b c : Int32} : p_146 m a b c = some (ofB (decide (¬ a = 0 ∧ ¬ b = 0 ∧ ¬ c = 0)), w_up m 1076 79 (if a = 0 then 1 else if b = 0 then 2 else if c = 0 then 3 else 0)) := by
  unfold p_146 q_146_14
  simp only [w_let, w_up_at]
  by_cases h1 : a = 0
  · simp [h1, ofB]
  · by_cases h2 : b = 0
    · simp [h1, h2, ofB]
    · by_cases h3 : c = 0
      · simp [h1, h2, h3, ofB]
      · simp [h1, h2, h3, ofB]
theorem hand_nat {x : Int32} (h : ¬ v_121 x = 0) : ∃ i, i < 2 ∧ x = Int32.ofNat i := by
  unfold v_121 at h
  by_cases h0 : x < 0
  · rw [if_pos h0] at h; exact absurd rfl h
  · rw [if_neg h0] at h
    by_cases h1 : x < 2
    · obtain ⟨e, hl⟩ := u_natlt h0 h1 (by decide)
      exact ⟨_, hl, e⟩
    · rw [if_neg h1] at h; exact absurd rfl h
theorem hand_eq {x : Int32} : v_147 x 0 1 = v_121 x := by
  unfold v_147 v_121
  by_cases h0 : x < 0
  · rw [if_pos h0, if_pos h0]
  · rw [if_neg h0, if_neg h0]
    by_cases h1 : x < 2
    · have : x ≤ 1 := by grind
      rw [if_pos h1, if_pos this]
    · have : ¬ x ≤ 1 := by grind
      rw [if_neg h1, if_neg this]
theorem lang_eq {x : Int32} : (v_147 x 0 2 = 0 ↔ v_122 x = 0) ∧ (¬ v_122 x = 0 → x = 0 ∨ x = 1 ∨ x = 2) := by
  unfold v_147 v_122
  by_cases h0 : x = 0
  · subst h0; decide
  · by_cases h1 : x = 1
    · subst h1; decide
    · by_cases h2 : x = 2
      · subst h2; decide
      · have : x < 0 ∨ ¬ x ≤ 2 := by grind
        simp only [h0, h1, h2, if_false, or_self, not_true, false_implies, and_true, iff_true, not_false_eq_true]
        rcases this with h | h
        · rw [if_pos h]
        · by_cases h3 : x < 0
          · rw [if_pos h3]
          · rw [if_neg h3, if_neg h]
/-- the call fault: the same answer -/
theorem call_fault {h m : Hp} {a b : Int32} (H : hnd h m) : (∃ m', p_98 h a b = some (.inr 0, h) ∧ p_160 m a b = some (0, m') ∧ v_145 m' = 1 ∧ m' = w_up m 1076 79 1) ∨ (∃ v h' m', p_98 h a b = some (.inl v, h') ∧ p_160 m a b = some (v, m') ∧ v_145 m' = 0 ∧ w_fr rdP h h' ∧ ffr (w_up m 1076 79 0) m') := by
  unfold p_98 p_160 q_160_14
  rw [hand_eq, goes_3]
  simp only [Option.bind_some]
  by_cases c1 : v_121 a = 0
  · left
    rw [if_pos c1, if_pos c1]
    refine ⟨_, rfl, ?_, ?_, rfl⟩
    · rw [if_pos rfl]; simp [ofB]
    · exact w_up_at
  · rw [if_neg c1, if_neg c1]
    obtain ⟨hl1, hl2⟩ := lang_eq (x := b)
    by_cases c2 : v_122 b = 0
    · left
      rw [if_pos c2, if_pos (hl1.mpr c2)]
      refine ⟨_, rfl, ?_, ?_, rfl⟩
      · rw [if_pos rfl]; simp [ofB]
      · exact w_up_at
    · right
      rw [if_neg c2, if_neg (fun e => c2 (hl1.mp e))]
      obtain ⟨i, hi, rfl⟩ := hand_nat c1
      obtain ⟨T, t1, t2, t3⟩ := H i hi
      have e48 : 2 * i + 48 = 48 + 2 * i := by omega
      simp (disch := omega) only [u_ix, u_cl, w_gd, e48]
      obtain ⟨r, r1, r2, r3, r4, r5⟩ := c_35 (h := h) (lang := b) (q := 48 + 2 * i) (by omega) t1
      rw [r1]
      have one : ¬ ((1 : Int32) = 0) := by decide
      simp only [Option.bind_some, one, if_false, not_false_eq_true, and_self, decide_true]
      rw [if_neg (by decide)]
      obtain ⟨m', b1, b2⟩ := m_158 (m := w_up m 1076 79 0) (lang := b) hi t1.1 (by rw [w_up_q (by decide)]; exact t2) (fun j hj => by rw [w_up_q (by decide)]; exact t3 j hj) (hl2 c2)
      rw [b1]
      simp only [Option.bind_some]
      refine ⟨rdF T b, r.2, m', by rw [← r2], rfl, ?_, r4, b2⟩
      show m' 1076 79 = 0
      rw [b2.2 79 (by decide) (by decide) (by decide), w_up_at]
end S57
