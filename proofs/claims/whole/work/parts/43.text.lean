/-! ===== texts on both sides ===== -/
def chr (x : Int32) : Prop := j_nar 51 x = x
/-- the text at q (a Text of the class) is T -/
def tx (h : Hp) (q : Nat) (T : List Int32) : Prop := T.length ≤ 40 ∧ h q 1 = Int32.ofNat T.length ∧ (∀ i, i < T.length → h (q + 1) i = T.getD i 0) ∧ ∀ i, i < T.length → chr (T.getD i 0)
/-- the row r holds T from o on -/
def tm (m : Hp) (r o : Nat) (T : List Int32) : Prop := ∀ i, i < T.length → m r (o + i) = T.getD i 0
theorem tx_fr {h h' : Hp} {q : Nat} {T : List Int32} (H : tx h q T) (h1 : h' q 1 = h q 1) (h2 : h' (q + 1) = h (q + 1)) : tx h' q T := by
  obtain ⟨a, b, c, d⟩ := H
  exact ⟨a, h1.trans b, fun i hi => by rw [h2]; exact c i hi, d⟩
theorem mem_getD {T : List Int32} {x : Int32} : x ∈ T ↔ ∃ i, i < T.length ∧ T.getD i 0 = x := by
  rw [List.mem_iff_getElem]
  constructor
  · rintro ⟨i, hi, e⟩; exact ⟨i, hi, by simp [hi, e]⟩
  · rintro ⟨i, hi, e⟩; exact ⟨i, hi, by simpa [hi] using e⟩
theorem list_getD {S T : List Int32} (hl : S.length = T.length) : S = T ↔ ∀ i, i < S.length → S.getD i 0 = T.getD i 0 := by
  constructor
  · rintro rfl i _; rfl
  · intro h
    apply List.ext_getElem hl
    intro i h1 h2
    have := h i h1
    simpa [h1, h2] using this
theorem s_59 {h : Hp} {q : Nat} {T : List Int32} {x : Int32} (H : tx h q T) : p_59 h q x = some (ofB (decide (x ∈ T))) := by
  obtain ⟨h40, hl, hi, -⟩ := H
  have : ok (p_59 h q x) (fun r => r = ofB (decide (x ∈ T))) := by
    unfold p_59
    refine ok_for (fun i s => s = Int32.ofNat i ∧ ∀ j, j < i → ¬ T.getD j 0 = x) T.length ⟨rfl, fun j hj => by omega⟩ (by unfold w_N; omega) ?_ ?_
    · rintro i s hi2 ⟨e, h0⟩
      subst e
      simp (disch := omega) only [l_59_2, hl, u_lt, hi2, if_true, u_ix, u_cl, w_gd, hi, u_S]
      by_cases h1 : T.getD i 0 = x
      · rw [if_pos h1]
        refine ok_some ?_
        have : x ∈ T := mem_getD.mpr ⟨i, hi2, h1⟩
        show _ = _
        simp [this, ofB]
      · rw [if_neg h1]
        refine ok_some ⟨rfl, fun j hj => ?_⟩
        by_cases e : j = i
        · subst e; exact h1
        · exact h0 j (by omega)
    · rintro s ⟨e, h0⟩
      subst e
      simp (disch := omega) only [l_59_2, hl, u_lt, Nat.lt_irrefl, if_false]
      refine ok_some ?_
      have : ¬ x ∈ T := fun e => by
        obtain ⟨i, a, b⟩ := mem_getD.mp e
        exact h0 i a b
      show _ = _
      simp [this, ofB]
  obtain ⟨r, e1, e2⟩ := this
  rw [e1, e2]
theorem s_60 {h : Hp} {q0 q1 : Nat} {S T : List Int32} (H0 : tx h q0 S) (H1 : tx h q1 T) : p_60 h q0 q1 = some (ofB (decide (S = T))) := by
  obtain ⟨a40, al, ai, -⟩ := H0
  obtain ⟨b40, bl, bi, -⟩ := H1
  have : ok (p_60 h q0 q1) (fun r => r = ofB (decide (S = T))) := by
    unfold p_60
    by_cases hl : S.length = T.length
    · rw [if_pos (by rw [al, bl, hl])]
      refine ok_for (fun i s => s = Int32.ofNat i ∧ ∀ j, j < i → S.getD j 0 = T.getD j 0) S.length ⟨rfl, fun j hj => by omega⟩ (by unfold w_N; omega) ?_ ?_
      · rintro i s hi2 ⟨e, h0⟩
        subst e
        simp (disch := omega) only [l_60_9, al, u_lt, hi2, if_true, u_ix, u_cl, w_gd, ai, bi, u_S]
        by_cases h1 : S.getD i 0 = T.getD i 0
        · rw [if_pos h1]
          refine ok_some ⟨rfl, fun j hj => ?_⟩
          by_cases e : j = i
          · subst e; exact h1
          · exact h0 j (by omega)
        · rw [if_neg h1]
          refine ok_some ?_
          have : ¬ S = T := fun e => h1 (by rw [e])
          show _ = _
          simp [this, ofB]
      · rintro s ⟨e, h0⟩
        subst e
        simp (disch := omega) only [l_60_9, al, u_lt, Nat.lt_irrefl, if_false]
        refine ok_some ?_
        have : S = T := (list_getD hl).mpr h0
        show _ = _
        simp [this, ofB]
    · rw [if_neg (by rw [al, bl]; exact fun e => hl ((u_inj (by omega) (by omega)).mp e))]
      refine ok_some ?_
      have : ¬ S = T := fun e => hl (by rw [e])
      show _ = _
      simp [this, ofB]
  obtain ⟨r, e1, e2⟩ := this
  rw [e1, e2]
theorem s_61 {h : Hp} {q0 q1 : Nat} {T : List Int32} (H : tx h q1 T) (h1 : q1 ≠ q0 + 1) (h2 : q1 + 1 ≠ q0 + 1) (h3 : q1 ≠ q0) : ok (p_61 h q0 q1) (fun h' => w_fr (fun q => q = q0 ∨ q = q0 + 1) h h' ∧ (∀ b, b ≠ 1 → h' q0 b = h q0 b) ∧ tx h' q0 T) := by
  obtain ⟨h40, hl, hi, hc⟩ := H
  unfold p_61
  refine ok_bind (P := fun g => g = w_fi h (q0 + 1) 0 T.length (h (q1 + 1))) ?_ ?_
  · refine ok_for (fun i s => s.1 = Int32.ofNat i ∧ s.2 = w_fi h (q0 + 1) 0 i (h (q1 + 1))) T.length ⟨rfl, (w_fi0 h _ _ _).symm⟩ (by unfold w_N; omega) ?_ ?_
    · rintro i ⟨i', k⟩ hi2 ⟨e, hk⟩
      simp only at e hk
      subst e; subst hk
      have e1 : w_fi h (q0 + 1) 0 i (h (q1 + 1)) q1 1 = Int32.ofNat T.length := by rw [w_fi_q h1]; exact hl
      have e2 : j_nar 51 (w_fi h (q0 + 1) 0 i (h (q1 + 1)) (q1 + 1) i) = h (q1 + 1) i := by
        rw [w_fi_q h2, hi i hi2]; exact hc i hi2
      simp (disch := omega) only [l_61_2, e1, u_lt, hi2, if_true, u_ix, u_cl, w_gd, w_let, e2, u_S]
      refine ok_some ⟨rfl, ?_⟩
      have := w_fiS h (q0 + 1) 0 i (h (q1 + 1))
      rwa [Nat.zero_add] at this
    · rintro ⟨i', k⟩ ⟨e, hk⟩
      simp only at e hk
      subst e; subst hk
      have e1 : w_fi h (q0 + 1) 0 T.length (h (q1 + 1)) q1 1 = Int32.ofNat T.length := by rw [w_fi_q h1]; exact hl
      simp (disch := omega) only [l_61_2, e1, u_lt, Nat.lt_irrefl, if_false]
      exact ok_some rfl
  · rintro g rfl
    simp only [w_let]
    have e1 : w_fi h (q0 + 1) 0 T.length (h (q1 + 1)) q1 1 = Int32.ofNat T.length := by rw [w_fi_q h1]; exact hl
    rw [e1]
    refine ok_some ⟨?_, ?_, h40, w_up_at, ?_, hc⟩
    · intro z hz
      funext c
      rw [w_up_q (fun e => hz (Or.inl e)), w_fi_q (fun e => hz (Or.inr e))]
    · intro b hb
      rw [w_up_b hb, w_fi_q (by omega)]
    · intro i hi2
      rw [w_up_q (by omega), w_fi_at (by omega) (by omega), Nat.sub_zero]; exact hi i hi2
/-- the model: the text of a cell -/
def mt (m : Hp) (c : Nat) (T : List Int32) : Prop := T.length ≤ 40 ∧ m 1080 c = Int32.ofNat T.length ∧ tm m 1079 (40 * c) T
theorem u_40 (c i : Nat) : (40 : Int32) * Int32.ofNat c + Int32.ofNat i = Int32.ofNat (40 * c + i) := by
  rw [show (40 : Int32) = Int32.ofNat 40 by rfl, u_mul, u_add]
theorem s_214 {m : Hp} {c r o : Nat} {S T : List Int32} (hc : c < 16) (HT : mt m c T) (hS : S.length ≤ 40) (HS : tm m r o S) (hr : o + 40 ≤ w_len r) (hb : w_len r ≤ 100000) : p_214 m (Int32.ofNat c) r (Int32.ofNat o) (Int32.ofNat S.length) = some (ofB (decide (S = T))) := by
  obtain ⟨h40, hl, hi⟩ := HT
  unfold p_214
  simp (disch := omega) only [u_ix, u_cl, w_gd, q_214_9, hl]
  have e0 : (if Int32.ofNat S.length = Int32.ofNat T.length then (1 : Int32) else 0) = ofB (decide (S.length = T.length)) := by
    simp only [u_inj (show S.length < 2147483648 by omega) (show T.length < 2147483648 by omega)]
    by_cases e : S.length = T.length <;> simp [e, ofB]
  rw [e0]
  have : ok (w_lp (fun (s : Int32 × Int32) => l_214_12 m (Int32.ofNat c) r (Int32.ofNat o) (Int32.ofNat S.length) s.1 s.2) w_N (ofB (decide (S.length = T.length)), 0)) (fun r => r = ofB (decide (S = T))) := by
    refine ok_for (fun i s => s.2 = Int32.ofNat i ∧ ∃ b : Bool, s.1 = ofB b ∧ (b = true ↔ S.length = T.length ∧ ∀ j, j < i → S.getD j 0 = T.getD j 0)) S.length ⟨rfl, _, rfl, by simp⟩ (by unfold w_N; omega) ?_ ?_
    · rintro i ⟨z, i'⟩ hi2 ⟨e, b, hz, hb2⟩
      simp only at e hz
      subst e; subst hz
      have eo : Int32.ofNat o + Int32.ofNat i = Int32.ofNat (o + i) := u_add o i
      simp (disch := omega) only [l_214_12, u_lt, hi2, if_true]
      cases b with
      | false =>
        refine ok_T rfl (ok_gd rfl (ok_some ?_))
        have : ¬ S = T := fun e => by
          have := hb2.mpr ⟨by rw [e], fun j _ => by rw [e]⟩
          cases this
        show ofB false = _
        simp [this]
      | true =>
        obtain ⟨hl2, hj⟩ := hb2.mp rfl
        refine ok_F (by decide) ?_
        simp (disch := omega) only [eo, u_40, u_ix, u_cl, w_gd, HS i hi2, hi i (by omega), u_S]
        refine ok_some ⟨rfl, decide (S.getD i 0 = T.getD i 0), ?_, ?_⟩
        · dsimp only; by_cases e : S.getD i 0 = T.getD i 0 <;> simp [e, ofB]
        · rw [decide_eq_true_iff]
          constructor
          · intro e
            refine ⟨hl2, fun j hj2 => ?_⟩
            by_cases ej : j = i
            · subst ej; exact e
            · exact hj j (by omega)
          · rintro ⟨-, h2⟩; exact h2 i (by omega)
    · rintro ⟨z, i'⟩ ⟨e, b, hz, hb2⟩
      simp only at e hz
      subst e; subst hz
      simp (disch := omega) only [l_214_12, u_lt, Nat.lt_irrefl, if_false]
      refine ok_gd (by cases b <;> rfl) (ok_some ?_)
      have : b = decide (S = T) := by
        by_cases e : S = T
        · have := hb2.mpr ⟨by rw [e], fun j _ => by rw [e]⟩
          simp [this, e]
        · cases b with
          | false => simp [e]
          | true =>
            obtain ⟨a1, a2⟩ := hb2.mp rfl
            exact absurd ((list_getD a1).mpr a2) e
      rw [this]; rfl
  obtain ⟨q, e1, e2⟩ := this
  rw [e1, e2]
theorem s_215 {m : Hp} {c r o : Nat} {T : List Int32} (hc : c < 16) (HT : mt m c T) (hr : o + 40 ≤ w_len r) (hb : w_len r ≤ 100000) (h1 : r ≠ 1080) (h2 : r ≠ 1079) : p_215 m (Int32.ofNat c) r (Int32.ofNat o) = some (w_fi m r o T.length (fun i => m 1079 (40 * c + i))) := by
  obtain ⟨h40, hl, hi⟩ := HT
  unfold p_215
  rw [show ((0, m) : Int32 × Hp) = (Int32.ofNat 0, w_fi m r o 0 (fun i => m 1079 (40 * c + i))) by rw [w_fi0]; rfl]
  refine u_for (N := w_N) (fun i => (Int32.ofNat i, w_fi m r o i (fun i => m 1079 (40 * c + i)))) T.length (by unfold w_N; omega) ?_ ?_
  · intro i hi2
    have eo : Int32.ofNat o + Int32.ofNat i = Int32.ofNat (o + i) := u_add o i
    simp (disch := omega) only [l_215_2, u_ix, u_cl, w_gd, w_fi_q, hl, u_lt, hi2, if_true, u_40, eo, w_let, u_S]
    rw [w_fiS]
  · simp (disch := omega) only [l_215_2, u_ix, u_cl, w_gd, w_fi_q, hl, u_lt, Nat.lt_irrefl, if_false]
theorem s_161 {m : Hp} {c : Nat} {T : List Int32} (hc : c < 16) (HT : mt m c T) : p_161 m (Int32.ofNat c) = some (w_up (w_fi (w_up m 1076 66 (Int32.ofNat T.length)) 1127 0 T.length (fun i => m 1079 (40 * c + i))) 1076 67 0) := by
  obtain ⟨h40, hl, hi⟩ := HT
  unfold p_161
  simp (disch := omega) only [u_ix, u_cl, w_gd, w_let, hl]
  have : w_lp (fun (s : Int32 × Hp) => l_161_8 (Int32.ofNat c) s.1 s.2) w_N (0, w_up m 1076 66 (Int32.ofNat T.length)) = some (w_fi (w_up m 1076 66 (Int32.ofNat T.length)) 1127 0 T.length (fun i => m 1079 (40 * c + i))) := by
    rw [show ((0, w_up m 1076 66 (Int32.ofNat T.length)) : Int32 × Hp) = (Int32.ofNat 0, w_fi (w_up m 1076 66 (Int32.ofNat T.length)) 1127 0 0 (fun i => m 1079 (40 * c + i))) by rw [w_fi0]; rfl]
    refine u_for (N := w_N) (fun i => (Int32.ofNat i, w_fi (w_up m 1076 66 (Int32.ofNat T.length)) 1127 0 i (fun i => m 1079 (40 * c + i)))) T.length (by unfold w_N; omega) ?_ ?_
    · intro i hi2
      simp (disch := omega) only [l_161_8, w_fi_q, w_up_at, w_up_q, u_lt, hi2, if_true, u_ix, u_cl, w_gd, u_40, w_let, u_S]
      have := w_fiS (w_up m 1076 66 (Int32.ofNat T.length)) 1127 0 i (fun i => m 1079 (40 * c + i))
      rw [Nat.zero_add] at this
      rw [this]
    · simp (disch := omega) only [l_161_8, w_fi_q, w_up_at, u_lt, Nat.lt_irrefl, if_false]
  rw [this]
  rfl
