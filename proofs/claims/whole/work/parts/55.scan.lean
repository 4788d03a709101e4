/-! ===== the model's faults of queries and clauses; faultOf ===== -/
theorem L_nat {x : Int32} (h : isL x = true) : ∃ l, l < 26 ∧ x = Int32.ofNat (97 + l) ∧ x - 97 = Int32.ofNat l := by
  unfold isL at h
  simp only [Bool.and_eq_true, decide_eq_true_eq] at h
  obtain ⟨h1, h2⟩ := h
  have h0 : ¬ x < 0 := by grind
  obtain ⟨e, hl⟩ := u_nat h0
  have a1 : 97 ≤ x.toNatClampNeg := by
    have := h1; rw [e] at this
    exact (u_Lle hl (by decide)).mp this
  have a2 : x.toNatClampNeg ≤ 122 := by
    have := h2; rw [e] at this
    exact (u_leL hl (by decide)).mp this
  refine ⟨x.toNatClampNeg - 97, by omega, ?_, ?_⟩
  · rw [show 97 + (x.toNatClampNeg - 97) = x.toNatClampNeg by omega]; exact e
  · rw [e]
    have := u_subL (a := x.toNatClampNeg) (n := 97) a1
    rw [this, u_cl hl]
theorem D_nat {x : Int32} (h : isD x = true) : ∃ l, l < 10 ∧ x = Int32.ofNat (48 + l) := by
  unfold isD at h
  simp only [Bool.and_eq_true, decide_eq_true_eq] at h
  obtain ⟨h1, h2⟩ := h
  have h0 : ¬ x < 0 := by grind
  obtain ⟨e, hl⟩ := u_nat h0
  have a1 : 48 ≤ x.toNatClampNeg := by
    have := h1; rw [e] at this
    exact (u_Lle hl (by decide)).mp this
  have a2 : x.toNatClampNeg ≤ 57 := by
    have := h2; rw [e] at this
    exact (u_leL hl (by decide)).mp this
  refine ⟨x.toNatClampNeg - 48, by omega, ?_⟩
  rw [show 48 + (x.toNatClampNeg - 48) = x.toNatClampNeg by omega]; exact e
theorem dgs_nat {T : List Int32} : ∀ k p a, k ≤ 6 → a < 10 ^ (6 - k) → ∃ b, b < 1000000 ∧ (dgs T k p (Int32.ofNat a)).1 = Int32.ofNat b := by
  intro k
  induction k with
  | zero => intro p a _ ha; exact ⟨a, ha, rfl⟩
  | succ k ih =>
    intro p a hk ha
    have h6 : 10 ^ (6 - (k + 1)) ≤ 100000 := by
      have : 10 ^ (6 - (k + 1)) ≤ 10 ^ 5 := Nat.pow_le_pow_right (by decide) (by omega)
      exact this
    have e10 : 10 ^ (6 - k) = 10 ^ (6 - (k + 1)) * 10 := by
      rw [show 6 - k = (6 - (k + 1)) + 1 by omega, Nat.pow_succ]
    simp only [dgs]
    by_cases hd : isD (cat T p) = true
    · rw [if_pos hd]
      obtain ⟨l, hl, e⟩ := D_nat hd
      rw [if_neg (u_lt0 (by omega)), e]
      have e1 : Int32.ofNat a * 10 + Int32.ofNat (48 + l) - 48 = Int32.ofNat (a * 10 + l) := by
        have a1 := u_mulL a 10
        have a3 := u_subL (a := a * 10 + (48 + l)) (n := 48) (by omega)
        rw [a1, u_add, a3]
        congr 1; omega
      rw [e1]
      exact ih (p + 1) (a * 10 + l) (by omega) (by omega)
    · rw [if_neg hd]
      exact ⟨a, by omega, rfl⟩
theorem dgs_m1 {T : List Int32} {p : Nat} : (dgs T 6 p (-1)).1 = -1 ↔ isD (cat T p) = false := by
  constructor
  · intro h
    cases hd : isD (cat T p) with
    | false => rfl
    | true =>
      exfalso
      obtain ⟨l, hl, e⟩ := D_nat hd
      have e0 : dgs T 6 p (-1) = dgs T 5 (p + 1) (Int32.ofNat l) := by
        rw [show dgs T 6 p (-1) = if isD (cat T p) = true then dgs T 5 (p + 1) (((if (-1 : Int32) < 0 then 0 else -1) * 10 + cat T p) - 48) else (-1, p) from rfl, if_pos hd, e]
        congr 1
        rw [if_pos (by decide)]
        have a3 := u_subL (a := 48 + l) (n := 48) (by omega)
        have a4 : (0 : Int32) * 10 + Int32.ofNat (48 + l) = Int32.ofNat (48 + l) := by
          have : (0 : Int32) * 10 = Int32.ofNat 0 := by decide
          rw [this, u_add, Nat.zero_add]
        rw [a4, a3]
        congr 1; omega
      rw [e0] at h
      obtain ⟨b, hb, eb⟩ := dgs_nat (T := T) 5 (p + 1) l (by omega) (by omega)
      rw [eb] at h
      have := u_lt0 (a := b) (by omega)
      rw [h] at this; exact this (by decide)
  · intro h
    rw [show dgs T 6 p (-1) = if isD (cat T p) = true then dgs T 5 (p + 1) (((if (-1 : Int32) < 0 then 0 else -1) * 10 + cat T p) - 48) else (-1, p) from rfl, if_neg (by rw [h]; decide)]
section S55
variable {T : List Int32} {m : Hp}
/-- the model stands at p -/
def ma (T : List Int32) (m : Hp) (p : Nat) : Prop := ld T m ∧ m 1076 67 = Int32.ofNat p ∧ p ≤ T.length
theorem ma_g {p : Nat} (H : ma T m p) : v_150 m = cs0 T p ∧ g_150 m = true := m_150 H.1 H.2.1 H.2.2
theorem m_155 {p : Nat} {b : Bool} (H : ma T m p) (hb : b = true → p < T.length) : ∃ m', p_155 m (ofB b) = some (ofB b, m') ∧ ma T m' (if b = true then p + 1 else p) ∧ sfr m m' := by
  have e67 : ∀ z, sfr m (w_up m 1076 67 z) := fun z => sfr_up sfr_refl (Or.inr (Or.inr ⟨rfl, Or.inl rfl⟩))
  unfold p_155
  simp only [w_let]
  cases b with
  | true =>
    rw [if_neg (by decide), H.2.1, u_S]
    exact ⟨_, rfl, ⟨ld_sfr H.1 (e67 _), w_up_at, hb rfl⟩, e67 _⟩
  | false =>
    rw [if_pos (by rfl), H.2.1]
    have e : Int32.ofNat p + 0 = Int32.ofNat p := u_addL p 0
    rw [e]
    exact ⟨_, rfl, ⟨ld_sfr H.1 (e67 _), w_up_at, H.2.2⟩, e67 _⟩
theorem if1 {c : Prop} [Decidable c] {b : Bool} (h : c ↔ b = true) : (if c then (1 : Int32) else 0) = ofB b := by
  by_cases hc : c
  · rw [if_pos hc, h.mp hc]; rfl
  · rw [if_neg hc]
    cases b with
    | true => exact absurd (h.mpr rfl) hc
    | false => rfl
/-- a sign is gone over if it is x -/
theorem m_is {p : Nat} {x : Int32} (h0 : ¬ x = 0) (h1 : ¬ x = -1) (H : ma T m p) : ∃ m', p_155 m (if v_150 m = x then 1 else 0) = some (ofB (decide (cat T p = x)), m') ∧ ma T m' (if cat T p = x then p + 1 else p) ∧ sfr m m' := by
  rw [if1 (b := decide (cat T p = x)) (by rw [(ma_g H).1, cs_eq h0 h1]; simp)]
  obtain ⟨m', a, b, c⟩ := m_155 (b := decide (cat T p = x)) H (fun h => cat_eq (by simpa using h) h1)
  refine ⟨m', a, ?_, c⟩
  simpa using b
theorem m_let {p : Nat} (H : ma T m p) : ∃ m', p_155 m (v_148 (v_150 m)) = some (ofB (isL (cat T p)), m') ∧ ma T m' (if isL (cat T p) = true then p + 1 else p) ∧ sfr m m' := by
  rw [(ma_g H).1, m_148, cs_L]
  exact m_155 H (fun h => isL_lt h)
theorem m_156 (H : ma T m 0) : ∃ m', p_156 m = some (ofB ((rqu T (0, [], 0, 0, 0, 0, 0)).1 && decide ((rqu T (0, [], 0, 0, 0, 0, 0)).2.1 = T.length)), m') ∧ ma T m' (rqu T (0, [], 0, 0, 0, 0, 0)).2.1 ∧ sfr m m' := by
  unfold p_156 rqu
  dsimp only
  rw [(ma_g H).2]
  simp only [w_gd]
  obtain ⟨m1, a1, a2, a3⟩ := m_let H
  rw [a1]
  simp only [Option.bind_some]
  by_cases c1 : isL (cat T 0) = true
  rotate_left
  · have c1' : isL (cat T 0) = false := by simpa using c1
    rw [if_neg c1] at a2
    rw [c1', if_pos (by rfl), if_neg (by decide)]
    exact ⟨m1, rfl, a2, a3⟩
  rw [if_pos c1] at a2
  rw [c1, if_neg (by decide), if_pos rfl, (ma_g a2).2]
  simp only [w_gd]
  unfold q_156_14
  obtain ⟨m2, b1, b2, b3⟩ := m_is (x := 61) (by decide) (by decide) a2
  rw [b1]
  simp only [Option.bind_some, Nat.zero_add] at b2 ⊢
  by_cases c2 : cat T 1 = 61
  rotate_left
  · rw [if_neg c2] at b2
    rw [decide_eq_false c2, if_pos (by rfl), if_neg c2]
    exact ⟨m2, rfl, b2, sfr_trans a3 b3⟩
  rw [if_pos c2] at b2
  rw [decide_eq_true c2, if_neg (by decide), if_pos c2, (ma_g b2).2]
  simp only [w_gd]
  obtain ⟨m3, d1, d2, d3⟩ := m_let b2
  rw [d1]
  simp only [Option.bind_some] at d2 ⊢
  by_cases c3 : isL (cat T 2) = true
  rotate_left
  · have c3' : isL (cat T 2) = false := by simpa using c3
    have d2' : ma T m3 2 := by
      have := d2
      rw [show (1 : Nat) + 1 = 2 from rfl, if_neg c3] at this; exact this
    rw [show (1 : Nat) + 1 = 2 from rfl, c3', if_pos (by rfl), if_neg (by decide)]
    exact ⟨m3, rfl, d2', sfr_trans a3 (sfr_trans b3 d3)⟩
  have d2' : ma T m3 3 := by
    have := d2
    rw [show (1 : Nat) + 1 = 2 from rfl, if_pos c3] at this; exact this
  rw [show (1 : Nat) + 1 = 2 from rfl, c3, if_neg (by decide), if_pos rfl]
  have v3 := (ma_g d2').1
  have g3 := (ma_g d2').2
  have f3 : sfr m m3 := sfr_trans a3 (sfr_trans b3 d3)
  have gg : (if v_150 m3 = 60 then true else g_150 m3 && (if v_150 m3 = 62 then true else g_150 m3)) = true := by
    rw [g3]; split <;> (try split) <;> rfl
  rw [g3] at gg ⊢
  rw [gg]
  simp only [w_gd]
  unfold q_156_38
  let bc : Bool := decide (cat T 3 = 60) || (decide (cat T 3 = 62) || decide (cat T 3 = 61))
  have hcmp : (if v_150 m3 = 60 then (1 : Int32) else if v_150 m3 = 62 then 1 else if v_150 m3 = 61 then 1 else 0) = ofB bc := by
    have k1 : (v_150 m3 = 60) ↔ cat T 3 = 60 := by rw [v3]; exact cs_eq (by decide) (by decide)
    have k2 : (v_150 m3 = 62) ↔ cat T 3 = 62 := by rw [v3]; exact cs_eq (by decide) (by decide)
    have k3 : (v_150 m3 = 61) ↔ cat T 3 = 61 := by rw [v3]; exact cs_eq (by decide) (by decide)
    simp only [k1, k2, k3, bc]
    by_cases e1 : cat T 3 = 60
    · simp [e1, ofB]
    · by_cases e2 : cat T 3 = 62
      · simp [e2, ofB]
      · by_cases e3 : cat T 3 = 61
        · simp [e3, ofB]
        · simp [e1, e2, e3, ofB]
  rw [hcmp]
  obtain ⟨m4, h1, h2, h3⟩ := m_155 (b := bc) d2' (fun h => by
    simp only [bc, Bool.or_eq_true, decide_eq_true_eq] at h
    rcases h with h | h | h <;> exact cat_eq h (by decide))
  rw [h1]
  simp only [Option.bind_some]
  have f4 : sfr m m4 := sfr_trans f3 h3
  -- behind the comparison
  have go : bc = true → ∀ (k : Int32) (s3 : RS), s3.1 = 3 → ∃ m', (if ofB bc = 0 then some (0, m4) else w_gd (g_150 m4) <| q_156_50 m4 (if v_150 m4 = 45 then 1 else 0)) = some (ofB ((rqn T (cat T 0 - 97) k (ra s3)).1 && decide ((rqn T (cat T 0 - 97) k (ra s3)).2.1 = T.length)), m') ∧ ma T m' (rqn T (cat T 0 - 97) k (ra s3)).2.1 ∧ sfr m m' := by
    intro hb k s3 hs3
    rw [hb] at h2 ⊢
    have h4 : ma T m4 4 := by simpa using h2
    rw [if_neg (by decide), (ma_g h4).2]
    simp only [w_gd]
    unfold q_156_50
    obtain ⟨m5, i1, i2, i3⟩ := m_is (x := 45) (by decide) (by decide) h4
    rw [i1]
    simp only [Option.bind_some]
    have es : (ra s3).1 = 4 := by show s3.1 + 1 = 4; omega
    unfold rqn
    dsimp only
    rw [es]
    have es5 : (if cat T 4 = 45 then ra (ra s3) else ra s3).1 = if cat T 4 = 45 then 5 else 4 := by
      split
      · show (ra s3).1 + 1 = 5; omega
      · exact es
    generalize (if cat T 4 = 45 then ra (ra s3) else ra s3) = s5 at *
    generalize hp5 : (if cat T 4 = 45 then 5 else 4) = p5 at *
    have i2' : ma T m5 p5 := i2
    obtain ⟨p5', r5⟩ := s5
    have es5' : p5' = p5 := es5
    subst es5'
    dsimp only
    have hdm := dgs_m1 (T := T) (p := p5')
    have hdl := dgs_le (T := T) 6 p5' (-1)
    rw [m_152 i2'.1 i2'.2.1 i2'.2.2]
    simp only [Option.bind_some]
    have e67 : sfr m5 (w_up m5 1076 67 (Int32.ofNat (dgs T 6 p5' (-1)).2)) := sfr_up sfr_refl (Or.inr (Or.inr ⟨rfl, Or.inl rfl⟩))
    have M6 : ma T (w_up m5 1076 67 (Int32.ofNat (dgs T 6 p5' (-1)).2)) (dgs T 6 p5' (-1)).2 := ⟨ld_sfr i2'.1 e67, w_up_at, hdl.2 i2'.2.2⟩
    have f6 : sfr m (w_up m5 1076 67 (Int32.ofNat (dgs T 6 p5' (-1)).2)) := sfr_trans f4 (sfr_trans i3 e67)
    generalize w_up m5 1076 67 (Int32.ofNat (dgs T 6 p5' (-1)).2) = m6 at *
    cases hd : isD (cat T p5') with
    | false =>
      rw [if_pos (hdm.mpr hd)]
      simp only [Bool.false_and]
      rw [if_pos (by rfl)]
      exact ⟨m6, rfl, M6, f6⟩
    | true =>
      rw [if_neg (show ¬ (dgs T 6 p5' (-1)).1 = -1 from fun e => by rw [hdm.mp e] at hd; cases hd)]
      simp only [Bool.true_and]
      unfold rqs
      dsimp only
      have e6 : ∀ z, (re ((dgs T 6 p5' (-1)).2, r5) k z).1 = (dgs T 6 p5' (-1)).2 := fun _ => rfl
      simp only [e6]
      cases hd6 : isD (cat T (dgs T 6 p5' (-1)).2) with
      | true =>
        have nd : ¬ cat T (dgs T 6 p5' (-1)).2 = 115 ∧ ¬ cat T (dgs T 6 p5' (-1)).2 = 99 ∧ ¬ cat T (dgs T 6 p5' (-1)).2 = 109 ∧ ¬ cat T (dgs T 6 p5' (-1)).2 = 108 := by
          unfold isD at hd6
          simp only [Bool.and_eq_true, decide_eq_true_eq] at hd6
          refine ⟨?_, ?_, ?_, ?_⟩ <;> (intro e; rw [e] at hd6; exact absurd hd6.2 (by decide))
        rw [if_pos (by rfl), if_neg nd.1, if_neg nd.2.1, if_neg nd.2.2.1, if_neg nd.2.2.2]
        exact ⟨m6, rfl, M6, f6⟩
      | false =>
        rw [if_neg (by decide)]
        have v6 := (ma_g M6).1
        have g6 := (ma_g M6).2
        have gg6 : (if v_150 m6 = 115 then true else g_150 m6 && (if v_150 m6 = 99 then true else g_150 m6 && (if v_150 m6 = 109 then true else g_150 m6))) = true := by
          rw [g6]; split <;> (try split) <;> (try split) <;> rfl
        rw [g6] at gg6 ⊢
        rw [gg6]
        simp only [w_gd]
        let bs : Bool := decide (cat T (dgs T 6 p5' (-1)).2 = 115) || (decide (cat T (dgs T 6 p5' (-1)).2 = 99) || (decide (cat T (dgs T 6 p5' (-1)).2 = 109) || decide (cat T (dgs T 6 p5' (-1)).2 = 108)))
        have hsum : (if v_150 m6 = 115 then (1 : Int32) else if v_150 m6 = 99 then 1 else if v_150 m6 = 109 then 1 else if v_150 m6 = 108 then 1 else 0) = ofB bs := by
          have k1 : (v_150 m6 = 115) ↔ cat T (dgs T 6 p5' (-1)).2 = 115 := by rw [v6]; exact cs_eq (by decide) (by decide)
          have k2 : (v_150 m6 = 99) ↔ cat T (dgs T 6 p5' (-1)).2 = 99 := by rw [v6]; exact cs_eq (by decide) (by decide)
          have k3 : (v_150 m6 = 109) ↔ cat T (dgs T 6 p5' (-1)).2 = 109 := by rw [v6]; exact cs_eq (by decide) (by decide)
          have k4 : (v_150 m6 = 108) ↔ cat T (dgs T 6 p5' (-1)).2 = 108 := by rw [v6]; exact cs_eq (by decide) (by decide)
          simp only [k1, k2, k3, k4, bs]
          by_cases e1 : cat T (dgs T 6 p5' (-1)).2 = 115
          · simp [e1, ofB]
          · by_cases e2 : cat T (dgs T 6 p5' (-1)).2 = 99
            · simp [e2, ofB]
            · by_cases e3 : cat T (dgs T 6 p5' (-1)).2 = 109
              · simp [e3, ofB]
              · by_cases e4 : cat T (dgs T 6 p5' (-1)).2 = 108
                · simp [e4, ofB]
                · simp [e1, e2, e3, e4, ofB]
        rw [hsum]
        unfold q_156_75
        obtain ⟨m7, j1, j2, j3⟩ := m_155 (b := bs) M6 (fun h => by
          simp only [bs, Bool.or_eq_true, decide_eq_true_eq] at h
          rcases h with h | h | h | h <;> exact cat_eq h (by decide))
        rw [j1]
        simp only [Option.bind_some]
        have yes : bs = true → ∀ r : Bool × RS, r.1 = true → r.2.1 = (dgs T 6 p5' (-1)).2 + 1 → ∃ m', some ((if ofB bs = 0 then (0 : Int32) else if m7 1076 67 = m7 1076 66 then 1 else 0), m7) = some (ofB (r.1 && decide (r.2.1 = T.length)), m') ∧ ma T m' r.2.1 ∧ sfr m m' := by
          intro hb r r1 r2
          rw [hb] at j2 ⊢
          have j2' : ma T m7 ((dgs T 6 p5' (-1)).2 + 1) := by simpa using j2
          rw [r1, r2]
          refine ⟨m7, ?_, j2', sfr_trans f6 j3⟩
          rw [if_neg (by decide), j2'.2.1, j2'.1.2.1]
          have h40 := j2'.1.1
          have hle := j2'.2.2
          rw [if1 (b := decide ((dgs T 6 p5' (-1)).2 + 1 = T.length)) (by rw [u_inj (by omega) (by omega)]; simp)]
          rfl
        by_cases e1 : cat T (dgs T 6 p5' (-1)).2 = 115
        · rw [if_pos e1]; exact yes (by simp [bs, e1]) _ rfl rfl
        rw [if_neg e1]
        by_cases e2 : cat T (dgs T 6 p5' (-1)).2 = 99
        · rw [if_pos e2]; exact yes (by simp [bs, e2]) _ rfl rfl
        rw [if_neg e2]
        by_cases e3 : cat T (dgs T 6 p5' (-1)).2 = 109
        · rw [if_pos e3]; exact yes (by simp [bs, e3]) _ rfl rfl
        rw [if_neg e3]
        by_cases e4 : cat T (dgs T 6 p5' (-1)).2 = 108
        · rw [if_pos e4]; exact yes (by simp [bs, e4]) _ rfl rfl
        rw [if_neg e4]
        have hbs : bs = false := by simp [bs, e1, e2, e3, e4]
        rw [hbs] at j2 ⊢
        refine ⟨m7, ?_, ?_, sfr_trans f6 j3⟩
        · rw [if_pos (by rfl)]; rfl
        · show ma T m7 (dgs T 6 p5' (-1)).2
          simpa using j2
  have k3' : ∀ x : RS, (ru (re (ra (ra (ra ((0, [], 0, 0, 0, 0, 0) : RS)))) 1 (cat T 2 - 97)) (1 <<< ((cat T 2 - 97) &&& 31))).1 = 3 := fun _ => rfl
  by_cases e1 : cat T 3 = 60
  · rw [if_pos e1]; exact go (by simp [bc, e1]) 15 _ rfl
  rw [if_neg e1]
  by_cases e2 : cat T 3 = 62
  · rw [if_pos e2]; exact go (by simp [bc, e2]) 16 _ rfl
  rw [if_neg e2]
  by_cases e3 : cat T 3 = 61
  · rw [if_pos e3]; exact go (by simp [bc, e3]) 17 _ rfl
  rw [if_neg e3]
  have hbc : bc = false := by simp [bc, e1, e2, e3]
  rw [hbc] at h2 ⊢
  refine ⟨m4, ?_, ?_, f4⟩
  · rw [if_pos (by rfl)]; rfl
  · show ma T m4 3
    simpa using h2
end S55
