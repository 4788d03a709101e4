/-! ===== the model's sets of a line are the class's ===== -/
section S65
variable {T : List Int32}
theorem u_m1 {a : Nat} (h : a < 2147483648) : ¬ Int32.ofNat a = -1 := by
  intro e
  have := u_lt0 h
  rw [e] at this
  exact this (by decide)
theorem rqs_E {x : Int32} {s : RS} (h : (rqs T x s).1 = true) : (rqs T x s).2.2.2.2.2.1 = 1 <<< (x &&& 31) ∧ (rqs T x s).2.2.2.2.2.2.1 = s.2.2.2.2.2.1 ∧ (rqs T x s).2.2.2.2.2.2.2 = s.2.2.2.2.2.2 := by
  unfold rqs at h ⊢
  by_cases c1 : cat T s.1 = 115
  · simp only [c1, if_true] at h ⊢; exact ⟨rfl, rfl, rfl⟩
  · by_cases c2 : cat T s.1 = 99
    · simp only [c1, c2, if_false, if_true] at h ⊢; exact ⟨rfl, rfl, rfl⟩
    · by_cases c3 : cat T s.1 = 109
      · simp only [c1, c2, c3, if_false, if_true] at h ⊢; exact ⟨rfl, rfl, rfl⟩
      · by_cases c4 : cat T s.1 = 108
        · simp only [c1, c2, c3, c4, if_false, if_true] at h ⊢; exact ⟨rfl, rfl, rfl⟩
        · simp only [c1, c2, c3, c4, if_false] at h; cases h
theorem rqn_E {x k : Int32} {s : RS} (h : (rqn T x k s).1 = true) : (rqn T x k s).2.2.2.2.2.1 = 1 <<< (x &&& 31) ∧ (rqn T x k s).2.2.2.2.2.2.1 = s.2.2.2.2.2.1 ∧ (rqn T x k s).2.2.2.2.2.2.2 = s.2.2.2.2.2.2 := by
  unfold rqn at h ⊢
  dsimp only at h ⊢
  by_cases c : (dgs T 6 (if cat T s.1 = 45 then ra s else s).1 (-1)).1 = -1
  · rw [if_pos c] at h; cases h
  · rw [if_neg c] at h ⊢
    obtain ⟨a, b, d⟩ := rqs_E h
    refine ⟨a, b.trans ?_, d.trans ?_⟩
    · show (if cat T s.1 = 45 then ra s else s).2.2.2.2.2.1 = _
      by_cases c2 : cat T s.1 = 45
      · rw [if_pos c2]; rfl
      · rw [if_neg c2]
    · show (if cat T s.1 = 45 then ra s else s).2.2.2.2.2.2 = _
      by_cases c2 : cat T s.1 = 45
      · rw [if_pos c2]; rfl
      · rw [if_neg c2]
theorem rqu_E (h : (rqu T (0, [], 0, 0, 0, 0, 0)).1 = true) : isL (cat T 0) = true ∧ isL (cat T 2) = true ∧ (rqu T (0, [], 0, 0, 0, 0, 0)).2.2.2.2.2.1 = 1 <<< ((cat T 0 - 97) &&& 31) ∧ (rqu T (0, [], 0, 0, 0, 0, 0)).2.2.2.2.2.2.1 = 0 ∧ (rqu T (0, [], 0, 0, 0, 0, 0)).2.2.2.2.2.2.2 = 1 <<< ((cat T 2 - 97) &&& 31) := by
  unfold rqu at h ⊢
  dsimp only at h ⊢
  by_cases c1 : isL (cat T 0) = true
  rotate_left
  · rw [if_neg c1] at h; cases h
  rw [if_pos c1] at h ⊢
  by_cases c2 : cat T (0 + 1) = 61
  rotate_left
  · rw [if_neg c2] at h; cases h
  rw [if_pos c2] at h ⊢
  by_cases c3 : isL (cat T (0 + 2)) = true
  rotate_left
  · rw [if_neg c3] at h; cases h
  rw [if_pos c3] at h ⊢
  refine ⟨c1, c3, ?_⟩
  by_cases c4 : cat T (0 + 3) = 60
  · rw [if_pos c4] at h ⊢; exact rqn_E h
  rw [if_neg c4] at h ⊢
  by_cases c5 : cat T (0 + 3) = 62
  · rw [if_pos c5] at h ⊢; exact rqn_E h
  rw [if_neg c5] at h ⊢
  by_cases c6 : cat T (0 + 3) = 61
  · rw [if_pos c6] at h ⊢; exact rqn_E h
  rw [if_neg c6] at h; cases h
/-- what reading the sets of c's text leaves -/
def rgf (c : Nat) (m m' : Hp) : Prop := w_fr rgP m m' ∧ (∀ b, b ≠ 66 → b ≠ 67 → m' 1076 b = m 1076 b) ∧ ∀ k, k ≠ c → m' 1083 k = m 1083 k ∧ m' 1084 k = m 1084 k ∧ m' 1085 k = m 1085 k ∧ m' 1086 k = m 1086 k
theorem rgf_trans {c : Nat} {a b d : Hp} (x : rgf c a b) (y : rgf c b d) : rgf c a d := ⟨w_fr_trans x.1 y.1, fun k h h' => (y.2.1 k h h').trans (x.2.1 k h h'), fun k h => ⟨(y.2.2 k h).1.trans (x.2.2 k h).1, (y.2.2 k h).2.1.trans (x.2.2 k h).2.1, (y.2.2 k h).2.2.1.trans (x.2.2 k h).2.2.1, (y.2.2 k h).2.2.2.trans (x.2.2 k h).2.2.2⟩⟩
theorem rgf_r {c : Nat} {a b : Hp} (x : rfm c a b) : rgf c a b := by
  refine ⟨w_fr_mono x.1 (fun q h => by unfold rdsP at h; unfold rgP; omega), fun k _ h => x.2.1 k h, fun k h => ⟨(x.2.2 k h).1, (x.2.2 k h).2.1, (x.2.2 k h).2.2, ?_⟩⟩
  rw [x.1 1086 (by unfold rdsP; omega)]
theorem rgf_86 {c : Nat} {m : Hp} {x : Int32} : rgf c m (w_up m 1086 c x) := by
  refine ⟨w_fr_up (w_fr_refl _ _) (by unfold rgP; omega), fun b _ _ => w_up_q (by omega), fun k h => ?_⟩
  rw [w_up_q (by decide), w_up_q (by decide), w_up_q (by decide), w_up_b h]; exact ⟨rfl, rfl, rfl, rfl⟩
theorem m_163 {c : Nat} {m : Hp} {lang : Int32} (hc : c < 16) (HT : mt m c T) (hl : m 1081 c = lang) (hlang : lang = 0 ∨ lang = 1 ∨ lang = 2) (hF : rdF T lang = -1) : ∃ m', p_163 m (Int32.ofNat c) = some m' ∧ sts m' c (rdA T lang).2.2.2.2.2.1 (rdA T lang).2.2.2.2.2.2.1 (rdA T lang).2.2.2.2.2.2.2 ∧ m' 1086 c = ofB (opn T T.length) ∧ rgf c m m' := by
  have h40 := HT.1
  have m1 := s_161 hc HT
  unfold p_163
  rw [m1]
  generalize hg : w_up (w_fi (w_up m 1076 66 (Int32.ofNat T.length)) 1127 0 T.length (fun i => m 1079 (40 * c + i))) 1076 67 0 = g
  have Hg : ld T g := by
    subst hg
    refine ⟨h40, ?_, fun i hi => ?_⟩
    · rw [w_up_b (by decide), w_fi_q (by decide), w_up_at]
    · rw [w_up_q (by decide), w_fi_at (Nat.zero_le _) (by omega), Nat.sub_zero]
      exact HT.2.2 i hi
  have g67 : g 1076 67 = 0 := by subst hg; exact w_up_at
  have gf : rgf c m g := by
    subst hg
    refine ⟨fun q hq => ?_, fun b h1 h2 => ?_, fun k _ => ?_⟩
    · unfold rgP at hq
      funext b
      rw [w_up_q (by omega), w_fi_q (by omega), w_up_q (by omega)]
    · rw [w_up_b h2, w_fi_q (by decide), w_up_b h1]
    · rw [w_up_q (by decide), w_fi_q (by decide), w_up_q (by decide), w_up_q (by decide), w_fi_q (by decide), w_up_q (by decide), w_up_q (by decide), w_fi_q (by decide), w_up_q (by decide), w_up_q (by decide), w_fi_q (by decide), w_up_q (by decide)]
      exact ⟨rfl, rfl, rfl, rfl⟩
  have gl : g 1081 c = lang := by rw [← hl, gf.1 1081 (by unfold rgP; omega)]
  have nar0 : j_nar 52 0 = 0 := by decide
  simp (disch := omega) only [Option.bind_some, u_ix, u_cl, w_gd, w_let, nar0]
  have f2 : rgf c g (w_up (w_up (w_up g 1083 c 0) 1084 c 0) 1085 c 0) := rgf_r (rfm_trans (rfm_c (Or.inl rfl)) (rfm_trans (rfm_c (Or.inr (Or.inl rfl))) (rfm_c (Or.inr (Or.inr rfl)))))
  have H2 : ld T (w_up (w_up (w_up (w_up g 1083 c 0) 1084 c 0) 1085 c 0) 1086 c 0) := by
    refine ⟨h40, ?_, fun i hi => ?_⟩
    · simp (disch := omega) only [w_up_q]; exact Hg.2.1
    · simp (disch := omega) only [w_up_q]; exact Hg.2.2 i hi
  rw [m_open hc H2 w_up_at]
  simp only [Option.bind_some, w_up_up]
  generalize hg3 : w_up (w_up (w_up (w_up g 1083 c 0) 1084 c 0) 1085 c 0) 1086 c (ofB (opn T T.length)) = g3
  have H3 : ma T g3 0 := by
    subst hg3
    refine ⟨⟨h40, ?_, fun i hi => ?_⟩, ?_, Nat.zero_le _⟩
    · simp (disch := omega) only [w_up_q]; exact Hg.2.1
    · simp (disch := omega) only [w_up_q]; exact Hg.2.2 i hi
    · simp (disch := omega) only [w_up_q]; exact g67
  have hB : (rdA T lang).2.1 ≤ T.length := by
    unfold rdA
    rcases hlang with rfl | rfl | rfl
    · rw [if_neg (by decide), if_neg (by decide)]
      exact (rss_scan h40 40 40 (0, [], 0, 0, 0, 0, 0) (Nat.zero_le _) (by decide) (by decide)).2
    · rw [if_pos rfl]
      obtain ⟨_, _, b, _⟩ := m_156 H3
      exact b.2.2
    · rw [if_neg (by decide), if_pos rfl]
      obtain ⟨_, _, b, _⟩ := m_157 H3
      exact b.2.2
  obtain ⟨hA, hE⟩ : (rdA T lang).1 = true ∧ ¬ (rdA T lang).2.1 < T.length := by
    unfold rdF at hF
    by_cases c1 : (rdA T lang).1 = true
    · rw [if_pos c1] at hF
      by_cases c2 : (rdA T lang).2.1 < T.length
      · rw [if_pos c2] at hF
        exact absurd hF (u_m1 (by omega))
      · exact ⟨c1, c2⟩
    · rw [if_neg c1] at hF
      exact absurd hF (u_m1 (by omega))
  have s3 : sts g3 c 0 0 0 := by
    subst hg3
    unfold sts
    simp (disch := omega) only [w_up_q, w_up_at, and_self]
  have o3 : g3 1086 c = ofB (opn T T.length) := by subst hg3; exact w_up_at
  have l3 : g3 1081 c = lang := by subst hg3; simp (disch := omega) only [w_up_q]; exact gl
  have f3 : rgf c m g3 := by subst hg3; exact rgf_trans gf (rgf_trans f2 rgf_86)
  have fin : ∀ m', sts m' c (rdA T lang).2.2.2.2.2.1 (rdA T lang).2.2.2.2.2.2.1 (rdA T lang).2.2.2.2.2.2.2 → rfm c g3 m' → sts m' c (rdA T lang).2.2.2.2.2.1 (rdA T lang).2.2.2.2.2.2.1 (rdA T lang).2.2.2.2.2.2.2 ∧ m' 1086 c = ofB (opn T T.length) ∧ rgf c m m' := by
    intro m' a b
    refine ⟨a, ?_, rgf_trans f3 (rgf_r b)⟩
    rw [b.1 1086 (by unfold rdsP; omega)]; exact o3
  rw [l3]
  rcases hlang with rfl | rfl | rfl
  · rw [if_neg (by decide), if_neg (by decide)]
    obtain ⟨m', a1, a2, a3⟩ := m_164 hc H3 s3 hA hE
    rw [a1]
    exact ⟨m', rfl, fin m' a2 a3⟩
  · rw [if_pos rfl]
    have e : rdA T 1 = rqu T (0, [], 0, 0, 0, 0, 0) := by unfold rdA; rw [if_pos rfl]
    rw [e] at hA hE
    obtain ⟨q1, q2, q3, q4, q5⟩ := rqu_E hA
    have t0 := m_cat H3.1 (isL_lt q1)
    have t2 := m_cat H3.1 (isL_lt q2)
    obtain ⟨l, hl, e1, e2⟩ := L_nat q1
    obtain ⟨k, hk, k1, k2⟩ := L_nat q2
    refine ⟨_, rfl, fin _ ?_ (rfm_trans (rfm_c (Or.inl rfl)) (rfm_c (Or.inr (Or.inr rfl))))⟩
    rw [e, q3, q4, q5]
    unfold sts
    simp (disch := omega) only [w_up_q, w_up_at, s3.2.1, t0, t2]
    rw [v162_L hl e1, e2, v162_L hk k1, k2]
    exact ⟨rfl, trivial, rfl⟩
  · rw [if_neg (by decide), if_pos rfl]
    have e : rdA T 2 = rcl T 40 0 (0, [], 0, 0, 0, 0, 0) := by unfold rdA; rw [if_neg (by decide), if_pos rfl]
    rw [e] at hA hE
    obtain ⟨r1, r2, r3, r4, r5⟩ := rcl_E 40 0 (0, [], 0, 0, 0, 0, 0) hA (Or.inl rfl)
    have eE : (rcl T 40 0 (0, [], 0, 0, 0, 0, 0)).2.1 = T.length := by
      have hB' : (rdA T 2).2.1 ≤ T.length := hB
      rw [e] at hB'
      omega
    rw [eE] at r2 r4 r5
    obtain ⟨y, m', a1, a2, a3, a4, a5⟩ := m_rulesL hc (fun i hi h => r2 i (Nat.zero_le _) hi h) T.length 0 0 g3 w_N (by omega) H3.1 (by unfold w_N; omega)
    have a1' : w_lp (fun (t : Int32 × Int32 × Hp) => l_163_96 (Int32.ofNat c) t.1 t.2.1 t.2.2) w_N (0, 0, g3) = some (y, m') := a1
    rw [a1']
    have ed : m' 1083 c = (rcl T 40 0 (0, [], 0, 0, 0, 0, 0)).2.2.2.2.2.1 := by
      apply bt_ext
      intro j hj
      rw [a3 j hj, r4 j hj, s3.1]
    refine ⟨_, rfl, fin _ ?_ (rfm_trans a5 (rfm_c (Or.inr (Or.inr rfl))))⟩
    rw [e]
    unfold sts
    refine ⟨?_, ?_, ?_⟩
    · rw [w_up_q (by decide)]; exact ed
    · rw [w_up_q (by decide)]; exact a4.trans (s3.2.1.trans r3.symm)
    · rw [w_up_at]; dsimp only; rw [ed]
      apply bt_ext
      intro j hj
      rw [bt_and, bt_not hj, a2 j hj, r5 j hj]
end S65
