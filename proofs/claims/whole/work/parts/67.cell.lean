/-! ===== a cell takes what was typed: the model; the cells coupled ===== -/
section S67
variable {T : List Int32}
def tkP (q : Nat) : Prop := q = 1076 ∨ q = 1079 ∨ q = 1080 ∨ (1083 ≤ q ∧ q ≤ 1086) ∨ q = 1127
/-- what stays when the model's cell c takes a text -/
def tkf (c : Nat) (m m' : Hp) : Prop := w_fr tkP m m' ∧ (∀ b, b ≠ 66 → b ≠ 67 → m' 1076 b = m 1076 b) ∧ (∀ k, k ≠ c → m' 1080 k = m 1080 k ∧ m' 1083 k = m 1083 k ∧ m' 1084 k = m 1084 k ∧ m' 1085 k = m 1085 k ∧ m' 1086 k = m 1086 k) ∧ ∀ b, b < 40 * c ∨ 40 * c + 40 ≤ b → m' 1079 b = m 1079 b
theorem m_165 {i c : Nat} {m : Hp} {lang : Int32} (hi : i < 2) (hc : c < 16) (h40 : T.length ≤ 40) (hl : m 1078 i = Int32.ofNat T.length) (ht : tm m 1077 (40 * i) T) (hla : m 1081 c = lang) (hlang : lang = 0 ∨ lang = 1 ∨ lang = 2) (hF : rdF T lang = -1) : ∃ m', p_165 m (Int32.ofNat i) (Int32.ofNat c) = some m' ∧ mt m' c T ∧ sts m' c (rdA T lang).2.2.2.2.2.1 (rdA T lang).2.2.2.2.2.2.1 (rdA T lang).2.2.2.2.2.2.2 ∧ m' 1086 c = ofB (opn T T.length) ∧ tkf c m m' := by
  unfold p_165
  simp (disch := omega) only [u_ix, u_cl, w_gd, w_let, hl]
  have e1 : w_lp (fun (s : Int32 × Hp) => l_165_10 (Int32.ofNat i) (Int32.ofNat c) s.1 s.2) w_N (0, w_up m 1080 c (Int32.ofNat T.length)) = some (w_fi (w_up m 1080 c (Int32.ofNat T.length)) 1079 (40 * c) T.length (fun j => m 1077 (40 * i + j))) := by
    rw [show ((0, w_up m 1080 c (Int32.ofNat T.length)) : Int32 × Hp) = (Int32.ofNat 0, w_fi (w_up m 1080 c (Int32.ofNat T.length)) 1079 (40 * c) 0 (fun j => m 1077 (40 * i + j))) by rw [w_fi0]; rfl]
    refine u_for (N := w_N) (fun k => (Int32.ofNat k, w_fi (w_up m 1080 c (Int32.ofNat T.length)) 1079 (40 * c) k (fun j => m 1077 (40 * i + j)))) T.length (by unfold w_N; omega) ?_ ?_
    · intro k hk
      simp (disch := omega) only [l_165_10, w_fi_q, w_up_at, w_up_q, u_lt, hk, if_true, u_ix, u_cl, w_gd, u_40, w_let, u_S]
      rw [w_fiS]
    · simp (disch := omega) only [l_165_10, w_fi_q, w_up_at, u_lt, Nat.lt_irrefl, if_false, u_ix, u_cl, w_gd]
  rw [e1]
  simp only [Option.bind_some]
  generalize hg : w_fi (w_up m 1080 c (Int32.ofNat T.length)) 1079 (40 * c) T.length (fun j => m 1077 (40 * i + j)) = g
  have HT : mt g c T := by
    subst hg
    refine ⟨h40, ?_, fun j hj => ?_⟩
    · rw [w_fi_q (by decide), w_up_at]
    · rw [w_fi_at (by omega) (by omega), show 40 * c + j - 40 * c = j by omega]
      exact ht j hj
  have gl : g 1081 c = lang := by subst hg; rw [w_fi_q (by decide), w_up_q (by decide)]; exact hla
  obtain ⟨m', a1, a2, a3, a4⟩ := m_163 hc HT gl hlang hF
  rw [a1]
  refine ⟨m', rfl, ⟨h40, ?_, fun j hj => ?_⟩, a2, a3, fun q hq => ?_, fun b h1 h2 => ?_, fun k hk => ?_, fun b hb => ?_⟩
  · rw [a4.1 1080 (by unfold rgP; omega)]; exact HT.2.1
  · rw [a4.1 1079 (by unfold rgP; omega)]; exact HT.2.2 j hj
  · rw [a4.1 q (by unfold rgP; unfold tkP at hq; omega)]
    unfold tkP at hq
    subst hg
    funext b
    rw [w_fi_q (by omega), w_up_q (by omega)]
  · rw [a4.2.1 b h1 h2]
    subst hg
    rw [w_fi_q (by omega), w_up_q (by omega)]
  · obtain ⟨b1, b2, b3, b4⟩ := a4.2.2 k hk
    rw [b1, b2, b3, b4, a4.1 1080 (by unfold rgP; omega)]
    subst hg
    rw [w_fi_q (by omega), w_up_b hk, w_fi_q (by omega), w_up_q (by omega), w_fi_q (by omega), w_up_q (by omega), w_fi_q (by omega), w_up_q (by omega), w_fi_q (by omega), w_up_q (by omega)]
    exact ⟨rfl, rfl, rfl, rfl, rfl⟩
  · rw [a4.1 1079 (by unfold rgP; omega)]
    subst hg
    rw [w_fi_b (by omega), w_up_q (by omega)]
/-- the cell c in both heaps: its text, its language, what was read from it, its revision -/
def cel (h m : Hp) (c : Nat) (T : List Int32) (lang : Int32) : Prop := (lang = 0 ∨ lang = 1 ∨ lang = 2) ∧ rdF T lang = -1 ∧ tx h (64 * c + 53) T ∧ cd h (64 * c + 55) (rdA T lang).2 lang ∧ mt m c T ∧ m 1081 c = lang ∧ sts m c (rdA T lang).2.2.2.2.2.1 (rdA T lang).2.2.2.2.2.2.1 (rdA T lang).2.2.2.2.2.2.2 ∧ m 1086 c = ofB (opn T T.length) ∧ h (64 * c + 52) 10 = m 1082 c
theorem cd_fr {h h' : Hp} {q : Nat} {s : RS} {lang : Int32} (H : cd h q s lang) (e0 : h' q = h q) (e1 : h' (q + 1) = h (q + 1)) (e2 : h' (q + 2) = h (q + 2)) (e3 : h' (q + 3) = h (q + 3)) : cd h' q s lang := by
  unfold cd at H ⊢
  rw [e0, e1, e2, e3]; exact H
theorem tx_fr2 {h h' : Hp} {q : Nat} (H : tx h q T) (e0 : h' q = h q) (e1 : h' (q + 1) = h (q + 1)) : tx h' q T := by
  unfold tx at H ⊢
  rw [e0, e1]; exact H
/-- a coupled cell stays coupled where nothing of it changes -/
theorem cel_fr {h m h' m' : Hp} {c : Nat} {lang : Int32} (H : cel h m c T lang) (e0 : ∀ k, k < 6 → h' (64 * c + 53 + k) = h (64 * c + 53 + k)) (e1 : h' (64 * c + 52) 10 = h (64 * c + 52) 10) (e2 : m' 1080 c = m 1080 c ∧ m' 1081 c = m 1081 c ∧ m' 1082 c = m 1082 c ∧ m' 1083 c = m 1083 c ∧ m' 1084 c = m 1084 c ∧ m' 1085 c = m 1085 c ∧ m' 1086 c = m 1086 c) (e3 : ∀ b, 40 * c ≤ b → b < 40 * c + 40 → m' 1079 b = m 1079 b) : cel h' m' c T lang := by
  obtain ⟨a1, a2, a3, a4, a5, a6, a7, a8, a9⟩ := H
  obtain ⟨f0, f1, f2, f3, f4, f5, f6⟩ := e2
  refine ⟨a1, a2, tx_fr2 a3 (e0 0 (by decide)) (e0 1 (by decide)), cd_fr a4 (e0 2 (by decide)) (e0 3 (by decide)) (e0 4 (by decide)) (e0 5 (by decide)), ⟨a5.1, f0.trans a5.2.1, fun j hj => ?_⟩, f1.trans a6, ?_, f6.trans a8, by rw [e1, f2]; exact a9⟩
  · have := a5.1
    rw [e3 _ (by omega) (by omega)]; exact a5.2.2 j hj
  · unfold sts at a7 ⊢
    rw [f3, f4, f5]; exact a7
end S67
