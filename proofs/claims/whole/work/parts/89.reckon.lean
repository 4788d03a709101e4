/-! ===== the model reckons an expression: parts ===== -/
section S89
variable {T : List Int32} {c : Nat} {p : DP} {e fe : Nat → Option VL} {nm : Nat → Prop} {m m' : Hp} {d : DR}
/-- a value is pushed -/
theorem EV_push {a a' : Nat} {O : List (Int32 × Nat)} {V : List VL} {v : VL} {d' : DR} {b b' : Bool} (H : EV T c p e fe nm m (a, O, V, d, b)) (f : evf c m m') (h67 : m' 1076 67 = Int32.ofNat a') (haa : a ≤ a') (ha : a' ≤ T.length) (hV : V.length < 27) (e1 : m' 1128 = m 1128) (e2 : m' 1129 = m 1129) (e70 : m' 1076 70 = m 1076 70) (e75 : m' 1076 75 = m 1076 75) (e76 : m' 1076 76 = m 1076 76) (hv : mv m' 1130 (9 * V.length) (some v)) (hb : ∀ b, b < 9 * V.length → m' 1130 b = m 1130 b) (h72 : m' 1076 72 = Int32.ofNat (V.length + 1)) (hd : dm m' c p d') : EV T c p e fe nm m' (a', O, v :: V, d', b') := by
  obtain ⟨h1, h2, h3, h4, h5, h6, h7, h8, h9, h10, h11, h12⟩ := H
  have h5' : O.length ≤ a := h5
  exact ⟨EVB_evf h1 f, h67, ha, mk_fr h4 e1 e2, Nat.le_trans h5' haa, e70.trans h6, ⟨hv, mvs_b h7 hb⟩, hV, h72, e75.trans h10, by rw [e76]; exact h11, hd⟩
/-- the digits of a number -/
theorem l_204 (hT : T.length ≤ 40) : ∀ (k p0 a : Nat) (m : Hp) (N : Nat), k ≤ 6 → a < 10 ^ (6 - k) → p0 ≤ T.length → ld T m → m 1076 67 = Int32.ofNat p0 → ¬ isD (cat T (dgs T k p0 (Int32.ofNat a)).2) = true → k < N → w_lp (fun (s : Int32 × Hp) => l_204_5 s.1 s.2) N (Int32.ofNat a, m) = some ((dgs T k p0 (Int32.ofNat a)).1, w_up m 1076 67 (Int32.ofNat (dgs T k p0 (Int32.ofNat a)).2)) := by
  intro k
  have stop : ∀ (p0 : Nat) (x : Int32) (m : Hp) (N : Nat), p0 ≤ T.length → ld T m → m 1076 67 = Int32.ofNat p0 → ¬ isD (cat T p0) = true → 0 < N → w_lp (fun (s : Int32 × Hp) => l_204_5 s.1 s.2) N (x, m) = some (x, w_up m 1076 67 (Int32.ofNat p0)) := by
    intro p0 x m N h1 h2 h3 h4 hN
    obtain ⟨v, g⟩ := m_150 h2 h3 h1
    have hd : isD (cat T p0) = false := by simpa using h4
    rw [← h3, w_up_self]
    refine u_once hN ?_
    show l_204_5 x m = _
    unfold l_204_5
    rw [g, v, m_149, cs_D, hd]; rfl
  induction k with
  | zero =>
    intro p0 a m N _ _ h1 h2 h3 h4 hN
    exact stop p0 _ m N h1 h2 h3 h4 hN
  | succ k ih =>
    intro p0 a m N hk ha h1 h2 h3 h4 hN
    have h6 : 10 ^ (6 - (k + 1)) ≤ 100000 := by
      have : 10 ^ (6 - (k + 1)) ≤ 10 ^ 5 := Nat.pow_le_pow_right (by decide) (by omega)
      exact this
    have e10 : 10 ^ (6 - k) = 10 ^ (6 - (k + 1)) * 10 := by
      rw [show 6 - k = (6 - (k + 1)) + 1 by omega, Nat.pow_succ]
    simp only [dgs] at h4 ⊢
    by_cases hd : isD (cat T p0) = true
    · rw [if_pos hd] at h4 ⊢
      obtain ⟨N, rfl⟩ : ∃ q, N = q + 1 := ⟨N - 1, by omega⟩
      obtain ⟨l, hl, ec⟩ := D_nat hd
      have hlt := isD_lt hd
      have e1 : (if Int32.ofNat a < 0 then 0 else Int32.ofNat a) * 10 + cat T p0 - 48 = Int32.ofNat (a * 10 + l) := by
        rw [if_neg (u_lt0 (by omega)), ec]
        have a1 := u_mulL a 10
        have a3 := u_subL (a := a * 10 + (48 + l)) (n := 48) (by omega)
        rw [a1, u_add, a3]
        congr 1; omega
      rw [e1] at h4 ⊢
      have hm : m 1127 p0 = cat T p0 := m_cat h2 hlt
      have e2 : 10 * Int32.ofNat a + cat T p0 - 48 = Int32.ofNat (a * 10 + l) := by
        rw [ec]
        have a1 := u_Lmul a 10
        have a3 := u_subL (a := 10 * a + (48 + l)) (n := 48) (by omega)
        rw [a1, u_add, a3]
        congr 1; omega
      have hst : l_204_5 (Int32.ofNat a) m = some (.inl (Int32.ofNat (a * 10 + l), w_up m 1076 67 (Int32.ofNat (p0 + 1)))) := by
        obtain ⟨v, g⟩ := m_150 h2 h3 h1
        unfold l_204_5
        rw [g, v, m_149, cs_D, hd, if_neg (by decide), h3, u_ix (by omega) (by decide), u_cl (by omega), hm, e2, u_S]
        rfl
      have i := ih (p0 + 1) (a * 10 + l) (w_up m 1076 67 (Int32.ofNat (p0 + 1))) N (by omega) (by omega) hlt (ld_sfr h2 (sfr_up sfr_refl (Or.inr (Or.inr ⟨rfl, Or.inl rfl⟩)))) w_up_at h4 (by omega)
      simp only [w_lp, hst]
      rw [i, w_up_up]
    · rw [if_neg hd] at h4 ⊢
      exact stop p0 _ m N h1 h2 h3 h4 (by omega)
theorem dgs_0 {a : Nat} (hd : isD (cat T a) = true) : dgs T 6 a (-1) = dgs T 6 a (Int32.ofNat 0) := by
  show (if isD (cat T a) = true then dgs T 5 (a + 1) (((if (-1 : Int32) < 0 then 0 else -1) * 10 + cat T a) - 48) else _) = (if isD (cat T a) = true then dgs T 5 (a + 1) (((if (Int32.ofNat 0) < 0 then 0 else Int32.ofNat 0) * 10 + cat T a) - 48) else _)
  rw [if_pos hd, if_pos hd]
  rfl
theorem xs_push {x : Int32} {V : List VL} (hV : V.length < 27) : xs p 0 x (e, V, d) = some (0, e, .inl x :: V, d) := by
  show (if V.length < 27 then some ((0 : Int32), e, (.inl x : VL) :: V, d) else none : Option (Int32 × PM)) = _
  rw [if_pos hV]
/-- a number stands there -/
theorem st_num {a : Nat} {O : List (Int32 × Nat)} {V : List VL} (hc : isD (cat T a) = true) (hn : ¬ isD (cat T (dgs T 6 a (-1)).2) = true) (hV : V.length < 27) : gR T c p e fe nm (a, O, V, d, true) ((dgs T 6 a (-1)).2, O, .inl (dgs T 6 a (-1)).1 :: V, d, false) := by
  have hlt := isD_lt hc
  have h1 : a < (dgs T 6 a (-1)).2 := by
    have e1 : dgs T 6 a (-1) = dgs T 5 (a + 1) (((if (-1 : Int32) < 0 then 0 else -1) * 10 + cat T a) - 48) := by
      show (if isD (cat T a) = true then _ else _) = _
      rw [if_pos hc]
    rw [e1]
    have := (dgs_le (T := T) 5 (a + 1) (((if (-1 : Int32) < 0 then 0 else -1) * 10 + cat T a) - 48)).1
    omega
  refine gR_1 h1 (fun m H => ?_)
  have hT := H.1.1.1
  have hle := (dgs_le (T := T) 6 a (-1)).2 (by omega)
  obtain ⟨s1, s2⟩ := EV_sign H
  have lp := l_204 (T := T) hT 6 a 0 m w_N (by decide) (by decide) (by omega) H.1.1 H.2.1 (by rw [← dgs_0 hc]; exact hn) (by decide)
  rw [← dgs_0 hc] at lp
  generalize hq : dgs T 6 a (-1) = q at lp h1 hle
  obtain ⟨x, b⟩ := q
  have H1 : EV T c p e fe nm (w_up m 1076 67 (Int32.ofNat b)) (b, O, V, d, true) := EV_67 H (Nat.le_of_lt h1) hle
  obtain ⟨m1, a1, a2, a3, a4⟩ := m_196 (st := V) (x := x) (by omega) H1.2.2.2.2.2.2.1 H1.2.2.2.2.2.2.2.2.1
  refine ⟨m1, ?_, ?_, evf_trans evf_67 (evf_sfx a4)⟩
  · rw [show ofB ((a, O, V, d, true) : MS).2.2.2.2 = 1 from rfl, EV_part H]
    unfold q_207_28
    rw [s2, s1]
    simp only [w_gd]
    rw [if_neg (by decide)]
    unfold p_204
    rw [m_149, cs_D, hc, if_neg (by decide)]
    rw [show ((0, m) : Int32 × Hp) = (Int32.ofNat 0, m) from rfl, lp]
    simp only [Option.bind_some]
    rw [a1]
    simp only [Option.bind_some]
    have n1 : ¬ cs0 T a = 35 := fun h => by
      have := (cs_eq (by decide) (by decide)).mp h
      rw [this] at hc; exact absurd hc (by decide)
    have n2 : ¬ cs0 T a = 40 := fun h => by
      have := (cs_eq (by decide) (by decide)).mp h
      rw [this] at hc; exact absurd hc (by decide)
    have n3 : ¬ cs0 T a = 91 := fun h => by
      have := (cs_eq (by decide) (by decide)).mp h
      rw [this] at hc; exact absurd hc (by decide)
    rw [if_neg n1, if_neg n2, if_neg n3]
    rfl
  · refine EV_push H1 (evf_sfx a4) ?_ (Nat.le_refl _) hle hV (a4.1 _ (by decide)) (a4.1 _ (by decide)) (a4.2.2 _ (by decide)) (a4.2.2 _ (by decide)) (a4.2.2 _ (by decide)) a2.1 (fun b hb => a4.2.1 b (Or.inl hb)) a3 ?_
    · rw [a4.2.2 67 (by decide)]; exact w_up_at
    · exact dm_fr H1.2.2.2.2.2.2.2.2.2.2.2 (a4.1 _ (by decide)) (a4.1 _ (by decide)) (fun b _ _ h3 _ _ => a4.2.2 b h3)
/-- a sign that opens -/
theorem st_open {a : Nat} {O : List (Int32 × Nat)} {V : List VL} {y : Int32} (hy : y = 35 ∨ y = 40 ∨ y = 91) (hc : cat T a = y) : gR T c p e fe nm (a, O, V, d, true) (a + 1, (y, 1) :: O, V, d, true) := by
  have n1 : ¬ y = -1 := by rcases hy with rfl | rfl | rfl <;> decide
  have n0 : ¬ y = 0 := by rcases hy with rfl | rfl | rfl <;> decide
  have hlt : a < T.length := cat_eq hc n1
  refine gR_1 (Nat.lt_succ_self a) (fun m H => ?_)
  have hT := H.1.1.1
  obtain ⟨s1, s2⟩ := EV_sign H
  have s3 : v_150 m = y := s1.trans ((cs_eq n0 n1).mpr hc)
  have H1 : EV T c p e fe nm (w_up m 1076 67 (Int32.ofNat (a + 1))) (a + 1, O, V, d, true) := EV_67 H (Nat.le_succ a) hlt
  have hO : O.length ≤ a := H.2.2.2.2.1
  obtain ⟨m2, b1, b2, b3, b4⟩ := m_203 (x := y) H1.2.2.2.1 (by show O.length < 80; omega) H1.2.2.2.2.2.1
  have f := evf_opf (c := c) b4
  refine ⟨m2, ?_, ?_, evf_trans evf_67 f⟩
  · rw [show ofB ((a, O, V, d, true) : MS).2.2.2.2 = 1 from rfl, EV_part H]
    unfold q_207_28
    rw [s2, s3]
    simp only [w_gd]
    rw [if_neg (by decide)]
    have e1 : (if y = 35 then 1 else (if y = 40 then 1 else (if y = 91 then 1 else 0 : Int32) : Int32) : Int32) = 1 := by
      rcases hy with rfl | rfl | rfl <;> decide
    have e2 : v_149 y = 0 := by rcases hy with rfl | rfl | rfl <;> decide
    have e3 : v_148 y = 0 := by rcases hy with rfl | rfl | rfl <;> decide
    have e4 : ¬ y = 63 := by rcases hy with rfl | rfl | rfl <;> decide
    have e5 : ¬ y = 64 := by rcases hy with rfl | rfl | rfl <;> decide
    rw [e1]
    unfold p_204
    have h67 : m 1076 67 = Int32.ofNat a := H.2.1
    rw [e2, e3]
    simp only [w_let, h67, u_S, if_true]
    rw [if_neg e4, if_neg e5, b1]
    rfl
  · refine ⟨EVB_evf H1.1 f, ?_, hlt, b2, ?_, b3, mvs_b H1.2.2.2.2.2.2.1 (fun b _ => by rw [b4.1 1130 (by decide)]), H1.2.2.2.2.2.2.2.1, ?_, ?_, ?_, ?_⟩
    · rw [b4.2 67 (by decide)]; exact H1.2.1
    · show O.length + 1 ≤ a + 1; omega
    · rw [b4.2 72 (by decide)]; exact H1.2.2.2.2.2.2.2.2.1
    · rw [b4.2 75 (by decide)]; exact H1.2.2.2.2.2.2.2.2.2.1
    · rw [b4.2 76 (by decide)]; exact H1.2.2.2.2.2.2.2.2.2.2.1
    · exact dm_fr H1.2.2.2.2.2.2.2.2.2.2.2 (b4.1 1095 (by decide)) (b4.1 1099 (by decide)) (fun b _ h2 _ _ _ => b4.2 b h2)
/-- ? and @ -/
theorem st_draw {a : Nat} {O : List (Int32 × Nat)} {V : List VL} {y k : Int32} (hy : (y = 63 ∧ k = 0) ∨ (y = 64 ∧ k = 1)) (hc : cat T a = y) (hV : V.length < 27) (hd : d.1 < 40) : gR T c p e fe nm (a, O, V, d, true) (a + 1, O, .inl (drw p k d).1 :: V, (drw p k d).2, false) := by
  have n1 : ¬ y = -1 := by rcases hy with ⟨rfl, -⟩ | ⟨rfl, -⟩ <;> decide
  have n0 : ¬ y = 0 := by rcases hy with ⟨rfl, -⟩ | ⟨rfl, -⟩ <;> decide
  have hlt : a < T.length := cat_eq hc n1
  refine gR_1 (Nat.lt_succ_self a) (fun m H => ?_)
  have hT := H.1.1.1
  obtain ⟨s1, s2⟩ := EV_sign H
  have s3 : v_150 m = y := s1.trans ((cs_eq n0 n1).mpr hc)
  have H1 : EV T c p e fe nm (w_up m 1076 67 (Int32.ofNat (a + 1))) (a + 1, O, V, d, true) := EV_67 H (Nat.le_succ a) hlt
  obtain ⟨m1, a1, a2, a3⟩ := m_198 hy H1.2.2.2.2.2.2.2.2.2.2.2 hd
  have f1 := evf_dmf a3
  have k72 : m1 1076 72 = Int32.ofNat V.length := (a3.2.1 72 (by decide) (by decide)).trans H1.2.2.2.2.2.2.2.2.1
  obtain ⟨m2, b1, b2, b3, b4⟩ := m_196 (st := V) (x := (drw p k d).1) (by omega) (mvs_b H1.2.2.2.2.2.2.1 (fun b _ => by rw [a3.1 1130 (by decide)])) k72
  refine ⟨m2, ?_, ?_, evf_trans evf_67 (evf_trans f1 (evf_sfx b4))⟩
  · rw [show ofB ((a, O, V, d, true) : MS).2.2.2.2 = 1 from rfl, EV_part H]
    unfold q_207_28
    rw [s2, s3]
    simp only [w_gd]
    rw [if_neg (by decide)]
    have e1 : (if y = 35 then 1 else (if y = 40 then 1 else (if y = 91 then 1 else 0 : Int32) : Int32) : Int32) = 0 := by
      rcases hy with ⟨rfl, -⟩ | ⟨rfl, -⟩ <;> decide
    have e2 : v_149 y = 0 := by rcases hy with ⟨rfl, -⟩ | ⟨rfl, -⟩ <;> decide
    have e3 : v_148 y = 0 := by rcases hy with ⟨rfl, -⟩ | ⟨rfl, -⟩ <;> decide
    rw [e1]
    have h67 : m 1076 67 = Int32.ofNat a := H.2.1
    have e4 : p_204 m y = q_204_51 (w_up m 1076 67 (Int32.ofNat (a + 1))) y := by
      unfold p_204
      rw [e2, e3]
      simp only [w_let, h67, u_S, if_true]
      rcases hy with ⟨rfl, -⟩ | ⟨rfl, -⟩
      · rw [if_pos rfl]
      · rw [if_neg (by decide), if_pos rfl]
    rw [e4]
    unfold q_204_51
    rw [a1]
    simp only [Option.bind_some]
    rw [b1]
    rfl
  · refine EV_push H1 (evf_trans f1 (evf_sfx b4)) ?_ (Nat.le_refl _) hlt hV ?_ ?_ ?_ ?_ ?_ b2.1 (fun b hb => ?_) b3 ?_
    · rw [b4.2.2 67 (by decide), a3.2.1 67 (by decide) (by decide)]; exact w_up_at
    · rw [b4.1 1128 (by decide), a3.1 1128 (by decide)]
    · rw [b4.1 1129 (by decide), a3.1 1129 (by decide)]
    · rw [b4.2.2 70 (by decide), a3.2.1 70 (by decide) (by decide)]
    · rw [b4.2.2 75 (by decide), a3.2.1 75 (by decide) (by decide)]
    · rw [b4.2.2 76 (by decide), a3.2.1 76 (by decide) (by decide)]
    · rw [b4.2.1 b (Or.inl hb), a3.1 1130 (by decide)]
    · exact dm_fr a2 (b4.1 1095 (by decide)) (b4.1 1099 (by decide)) (fun b _ _ h3 _ _ => b4.2.2 b h3)
end S89
