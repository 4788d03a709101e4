/-! ===== the model's sets of a statements' text are the class's ===== -/
section S61
variable {T : List Int32}
theorem v126_ne {x : Int32} {l : Nat} (hl : l < 32) : v_126 x (Int32.ofNat l) = 0 ↔ ¬ bt x l = true := by
  rw [u_has hl]
  cases bt x l <;> simp
/-- behind a statement's letters -/
theorem q85_0 {c r : Nat} {m : Hp} {kn x4 x6 df ch us : Int32} (hc : c < 16) (H : ld T m) (hp : m 1076 67 = Int32.ofNat r) (hs : sts m c df ch us) : ∃ m', q_164_85 m (Int32.ofNat c) kn x4 0 x6 = some (.inl (kn ||| x4, m')) ∧ ld T m' ∧ m' 1076 67 = Int32.ofNat (r + 1) ∧ sts m' c (df ||| x4) ch (us ||| (x6 &&& (kn ^^^ (-1)))) ∧ rfm c m m' := by
  obtain ⟨s1, s2, s3⟩ := hs
  have hf : rfm c m (w_up (w_up (w_up m 1076 67 (Int32.ofNat (r + 1))) 1083 c (df ||| x4)) 1085 c (us ||| (x6 &&& (kn ^^^ (-1))))) := rfm_trans rfm_67 (rfm_trans (rfm_c (Or.inl rfl)) (rfm_c (Or.inr (Or.inr rfl))))
  refine ⟨_, ?_, ld_rfm H hf, ?_, ?_, hf⟩
  · unfold q_164_85 q_164_113 q_164_123
    simp (disch := omega) only [if_true, w_let, hp, u_S, u_ix, u_cl, w_gd, w_up_q, w_up_at, s1, s3]
  · simp (disch := omega) only [w_up_q, w_up_at]
  · unfold sts
    simp (disch := omega) only [w_up_q, w_up_at, s2, and_self]
theorem q85_1 {c r : Nat} {m : Hp} {kn x4 x6 df ch us : Int32} (hc : c < 16) (H : ld T m) (hp : m 1076 67 = Int32.ofNat r) (hs : sts m c df ch us) (hd : df &&& x4 = 0) : ∃ m', q_164_85 m (Int32.ofNat c) kn x4 1 x6 = some (.inl (kn ||| x4, m')) ∧ ld T m' ∧ m' 1076 67 = Int32.ofNat (r + 1) ∧ sts m' c df (ch ||| x4) (us ||| ((x6 ||| x4) &&& (kn ^^^ (-1)))) ∧ rfm c m m' := by
  obtain ⟨s1, s2, s3⟩ := hs
  have hf : rfm c m (w_up (w_up (w_up m 1076 67 (Int32.ofNat (r + 1))) 1084 c (ch ||| x4)) 1085 c (us ||| ((x6 ||| x4) &&& (kn ^^^ (-1))))) := rfm_trans rfm_67 (rfm_trans (rfm_c (Or.inr (Or.inl rfl))) (rfm_c (Or.inr (Or.inr rfl))))
  have o : ¬ (1 : Int32) = 0 := by decide
  refine ⟨_, ?_, ld_rfm H hf, ?_, ?_, hf⟩
  · unfold q_164_85 q_164_123
    simp (disch := omega) only [if_neg o, if_true, w_let, hp, u_S, u_ix, u_cl, w_gd, w_up_q, w_up_at, s1, s2, s3, hd]
  · simp (disch := omega) only [w_up_q, w_up_at]
  · unfold sts
    simp (disch := omega) only [w_up_q, w_up_at, s1, and_self]
theorem q85_2 {c r : Nat} {m : Hp} {kn x4 x6 df ch us : Int32} (hc : c < 16) (H : ld T m) (hp : m 1076 67 = Int32.ofNat r) (hs : sts m c df ch us) (hd : ¬ df &&& x4 = 0) : ∃ m', q_164_85 m (Int32.ofNat c) kn x4 1 x6 = some (.inl (kn ||| x4, m')) ∧ ld T m' ∧ m' 1076 67 = Int32.ofNat (r + 1) ∧ sts m' c df ch (us ||| (x6 &&& (kn ^^^ (-1)))) ∧ rfm c m m' := by
  obtain ⟨s1, s2, s3⟩ := hs
  have hf : rfm c m (w_up (w_up m 1076 67 (Int32.ofNat (r + 1))) 1085 c (us ||| (x6 &&& (kn ^^^ (-1))))) := rfm_trans rfm_67 (rfm_c (Or.inr (Or.inr rfl)))
  have o : ¬ (1 : Int32) = 0 := by decide
  refine ⟨_, ?_, ld_rfm H hf, ?_, ?_, hf⟩
  · unfold q_164_85 q_164_113 q_164_123
    simp (disch := omega) only [if_neg o, w_let, hp, u_S, u_ix, u_cl, w_gd, w_up_q, w_up_at, s1, s2, s3, hd, if_false]
  · simp (disch := omega) only [w_up_q, w_up_at]
  · unfold sts
    simp (disch := omega) only [w_up_q, w_up_at, s1, s2, and_self]
theorem us_ext {u k x y : Int32} {L : Nat → Bool} (h1 : ∀ j, j < 32 → bt x j = L j) (h2 : ∀ j, j < 32 → bt y j = (bt u j || (L j && !bt k j))) : u ||| (x &&& (k ^^^ (-1))) = y := by
  apply bt_ext
  intro j hj
  rw [h2 j hj, bt_or, bt_and, bt_not hj, h1 j hj]
theorem or_0 {x : Int32} : x ||| 0 = x := by
  apply bt_ext; intro j _; rw [bt_or, bt_zero, Bool.or_false]
/-- one statement -/
theorem m_164s {c : Nat} {s : RS} {m : Hp} (hc : c < 16) (H : ma T m s.1) (hs : sts m c s.2.2.2.2.1 s.2.2.2.2.2.1 s.2.2.2.2.2.2) (hk : knI s) (h : (rst T s).1 = true) (he : (rst T s).2.1 = T.length ∨ cat T (rst T s).2.1 = 59) : ∃ m', l_164_2 (Int32.ofNat c) s.2.2.2.1 m = some (.inl ((rst T s).2.2.2.2.1, m')) ∧ ld T m' ∧ m' 1076 67 = Int32.ofNat ((rst T s).2.1 + 1) ∧ sts m' c (rst T s).2.2.2.2.2.1 (rst T s).2.2.2.2.2.2.1 (rst T s).2.2.2.2.2.2.2 ∧ rfm c m m' ∧ knI (rst T s).2 := by
  obtain ⟨Hl, hp, hp2⟩ := H
  have h40 := Hl.1
  obtain ⟨p1, s1, hp1, er, hlt, hle, hn, ek, ed, ec, eu, E1, E2, E3⟩ := rst_US h40 hp2 h
  rw [er] at he ⊢
  obtain ⟨v, g⟩ := m_151 Hl hp hp2
  have hlt0 : m 1076 67 < m 1076 66 := by
    rw [hp, Hl.2.1]
    refine (u_lt (by omega) (by omega)).mpr ?_
    by_cases c0 : sgn T s.1 = 61 ∨ sgn T s.1 = 33
    · rw [if_pos c0] at hp1; omega
    · rw [if_neg c0] at hp1; omega
  -- the letters
  have H1 : ma T (w_up m 1076 67 (Int32.ofNat p1)) p1 := ⟨ld_rfm (c := c) Hl rfm_67, w_up_at, by omega⟩
  have let6 : ∀ x1 x2 x4 x5 : Int32, ∃ y, w_lp (fun (t : Int32 × Hp) => l_164_48 x1 x2 x4 x5 t.1 t.2) w_N (0, w_up m 1076 67 (Int32.ofNat p1)) = some (y, w_up m 1076 67 (Int32.ofNat s1.1)) ∧ ∀ j, j < 32 → bt y j = lbt T p1 s1.1 j := by
    intro x1 x2 x4 x5
    obtain ⟨y, a1, a2⟩ := m_164a (x1 := x1) (x2 := x2) (x4 := x4) (x5 := x5) hle he (s1.1 - p1) p1 0 _ w_N (by omega) H1 hn (by unfold w_N; omega)
    rw [w_up_up] at a1
    exact ⟨y, a1, fun j hj => by rw [a2 j hj, bt_zero, Bool.false_or]⟩
  have H2 : ld T (w_up m 1076 67 (Int32.ofNat s1.1)) := ld_rfm (c := c) Hl rfm_67
  have hs2 : sts (w_up m 1076 67 (Int32.ofNat s1.1)) c s.2.2.2.2.1 s.2.2.2.2.2.1 s.2.2.2.2.2.2 := by
    obtain ⟨a, b, d⟩ := hs
    exact ⟨by rw [w_up_q (by decide)]; exact a, by rw [w_up_q (by decide)]; exact b, by rw [w_up_q (by decide)]; exact d⟩
  have two : Int32.ofNat s.1 + 2 = Int32.ofNat (s.1 + 2) := u_addL s.1 2
  by_cases ca : sgn T s.1 = 61 ∨ sgn T s.1 = 33
  · rw [if_pos ca] at hp1
    rw [decide_eq_true ca] at v
    have hL : isL (cat T s.1) = true := by
      unfold sgn at ca
      by_cases hL : isL (cat T s.1) = true
      · exact hL
      · rw [if_neg hL] at ca; exact absurd ca (by decide)
    obtain ⟨l, hl, el1, el2⟩ := L_nat hL
    have es : sgn T s.1 = cat T (s.1 + 1) := by unfold sgn; rw [if_pos hL]
    have e0 : m 1127 s.1 = cat T s.1 := by rw [Hl.2.2 _ (by omega)]; unfold cat; rw [if_pos (by omega)]
    have e1 : m 1127 (s.1 + 1) = cat T (s.1 + 1) := by rw [Hl.2.2 _ (by omega)]; unfold cat; rw [if_pos (by omega)]
    have ov : ¬ v_151 m = 0 := by rw [v]; decide
    have hstep : ∀ x5, (if cat T (s.1 + 1) = 33 then (1 : Int32) else 0) = x5 → ∃ y, (∀ j, j < 32 → bt y j = lbt T p1 s1.1 j) ∧ l_164_2 (Int32.ofNat c) s.2.2.2.1 m = q_164_85 (w_up m 1076 67 (Int32.ofNat s1.1)) (Int32.ofNat c) s.2.2.2.1 (1 <<< (Int32.ofNat l &&& 31)) x5 y := by
      intro x5 h5
      obtain ⟨y, y1, y2⟩ := let6 (Int32.ofNat c) s.2.2.2.1 (1 <<< (Int32.ofNat l &&& 31)) x5
      refine ⟨y, y2, ?_⟩
      unfold l_164_2 q_164_20 q_164_35 q_164_44
      rw [if_pos hlt0, g]
      simp (disch := omega) only [if_neg ov, w_gd, hp, u_S, u_ix, u_cl, e0, e1, h5, w_let, two]
      rw [v162_L hl el1, ← hp1, y1]
      rfl
    rw [el2] at E1 E2
    by_cases c1 : sgn T s.1 = 61
    · have E := E1 c1
      have n33 : (if cat T (s.1 + 1) = 33 then (1 : Int32) else 0) = 0 := by rw [← es, c1]; decide
      have key : ∀ y, (∀ j, j < 32 → bt y j = lbt T p1 s1.1 j) → ∃ m', q_164_85 (w_up m 1076 67 (Int32.ofNat s1.1)) (Int32.ofNat c) s.2.2.2.1 (1 <<< (Int32.ofNat l &&& 31)) 0 y = some (.inl (s.2.2.2.1 ||| (1 <<< (Int32.ofNat l &&& 31)), m')) ∧ ld T m' ∧ m' 1076 67 = Int32.ofNat (s1.1 + 1) ∧ sts m' c (s.2.2.2.2.1 ||| (1 <<< (Int32.ofNat l &&& 31))) s.2.2.2.2.2.1 (s.2.2.2.2.2.2 ||| (y &&& (s.2.2.2.1 ^^^ (-1)))) ∧ rfm c (w_up m 1076 67 (Int32.ofNat s1.1)) m' := fun y hy => q85_0 hc H2 w_up_at hs2
      obtain ⟨y, y2, hst⟩ := hstep 0 n33
      obtain ⟨m', a1, a2, a3, a4, a5⟩ := key y y2
      rw [us_ext y2 eu] at a4
      rw [E]
      refine ⟨m', hst.trans a1, a2, a3, a4, rfm_trans rfm_67 a5, ?_⟩
      unfold knI
      rw [E]
      intro j hj
      show bt (s.2.2.2.1 ||| _) j = true → bt (s.2.2.2.2.1 ||| _) j = true ∨ bt s1.2.2.2.2.2.2 j = true
      rw [bt_or, bt_or, eu j hj]
      intro hh
      rcases Bool.or_eq_true _ _ ▸ hh with hh | hh
      · rcases hk j hj hh with k | k
        · exact Or.inl (by rw [k]; rfl)
        · exact Or.inr (by rw [k]; rfl)
      · exact Or.inl (by rw [hh, Bool.or_true])
    · have c2 : sgn T s.1 = 33 := ca.elim (fun x => absurd x c1) id
      have E := E2 c2
      have n33 : (if cat T (s.1 + 1) = 33 then (1 : Int32) else 0) = 1 := by rw [← es, c2]; decide
      by_cases hd : bt s.2.2.2.2.1 l = true
      · rw [if_neg (fun e => (v126_ne (by omega)).mp e hd)] at E
        obtain ⟨y, y2, hst⟩ := hstep 1 n33
        obtain ⟨m', a1, a2, a3, a4, a5⟩ := q85_2 (kn := s.2.2.2.1) (x4 := 1 <<< (Int32.ofNat l &&& 31)) (x6 := y) hc H2 w_up_at hs2 (fun e => (u_bit (by omega)).mp e hd)
        rw [us_ext y2 eu] at a4
        rw [E]
        refine ⟨m', hst.trans a1, a2, a3, a4, rfm_trans rfm_67 a5, ?_⟩
        unfold knI
        rw [E]
        intro j hj
        show bt (s.2.2.2.1 ||| _) j = true → bt s.2.2.2.2.1 j = true ∨ bt s1.2.2.2.2.2.2 j = true
        rw [bt_or, bt_one (by omega), eu j hj]
        intro hh
        rcases Bool.or_eq_true _ _ ▸ hh with hh | hh
        · rcases hk j hj hh with k | k
          · exact Or.inl k
          · exact Or.inr (by rw [k]; rfl)
        · have : j = l := of_decide_eq_true hh
          exact Or.inl (by rw [this]; exact hd)
      · rw [if_pos ((v126_ne (by omega)).mpr hd)] at E
        obtain ⟨y, y2, hst⟩ := hstep 1 n33
        obtain ⟨m', a1, a2, a3, a4, a5⟩ := q85_1 (kn := s.2.2.2.1) (x4 := 1 <<< (Int32.ofNat l &&& 31)) (x6 := y) hc H2 w_up_at hs2 ((u_bit (by omega)).mpr hd)
        have eu2 : s.2.2.2.2.2.2 ||| ((y ||| ((1 <<< (Int32.ofNat l &&& 31)) : Int32)) &&& (s.2.2.2.1 ^^^ ((-1) : Int32))) = s1.2.2.2.2.2.2 ||| ((1 <<< (Int32.ofNat l &&& 31)) : Int32) := by
          apply bt_ext
          intro j hj
          rw [bt_or, bt_and, bt_or, bt_not hj, bt_or, bt_one (by omega), y2 j hj, eu j hj]
          by_cases e : j = l
          · subst e
            have kk := hk j hj
            revert kk
            cases bt s.2.2.2.1 j <;> cases bt s.2.2.2.2.2.2 j <;> cases lbt T p1 s1.1 j <;> simp [hd]
          · simp [e]
        rw [eu2] at a4
        rw [E]
        refine ⟨m', hst.trans a1, a2, a3, a4, rfm_trans rfm_67 a5, ?_⟩
        unfold knI
        rw [E]
        intro j hj
        show bt (s.2.2.2.1 ||| _) j = true → bt s.2.2.2.2.1 j = true ∨ bt (s1.2.2.2.2.2.2 ||| _) j = true
        rw [bt_or, bt_or, eu j hj]
        intro hh
        rcases Bool.or_eq_true _ _ ▸ hh with hh | hh
        · rcases hk j hj hh with k | k
          · exact Or.inl k
          · exact Or.inr (by rw [k]; rfl)
        · exact Or.inr (by rw [hh, Bool.or_true])
  · rw [if_neg ca] at hp1
    rw [decide_eq_false ca] at v
    have E := E3 (fun e => ca (Or.inl e)) (fun e => ca (Or.inr e))
    obtain ⟨y, y1, y2⟩ := let6 (Int32.ofNat c) s.2.2.2.1 0 0
    obtain ⟨m', a1, a2, a3, a4, a5⟩ := q85_0 (kn := s.2.2.2.1) (x4 := 0) (x6 := y) hc H2 w_up_at hs2
    rw [us_ext y2 eu, or_0] at a4
    rw [or_0] at a1
    rw [E]
    refine ⟨m', ?_, a2, a3, a4, rfm_trans rfm_67 a5, ?_⟩
    · show l_164_2 _ _ _ = some (.inl (s.2.2.2.1, m'))
      rw [← a1]
      unfold l_164_2 q_164_20 q_164_35 q_164_44
      have ov : v_151 m = 0 := by rw [v]; rfl
      rw [if_pos hlt0, g]
      have z0 : Int32.ofNat p1 + 0 = Int32.ofNat p1 := u_addL p1 0
      simp (disch := omega) only [if_pos ov, w_gd, hp, w_let, ← hp1, z0]
      rw [y1]
      rfl
    · unfold knI
      rw [E]
      intro j hj
      show bt s.2.2.2.1 j = true → bt s.2.2.2.2.1 j = true ∨ bt s1.2.2.2.2.2.2 j = true
      rw [eu j hj]
      intro hh
      rcases hk j hj hh with k | k
      · exact Or.inl k
      · exact Or.inr (by rw [k]; rfl)
end S61
