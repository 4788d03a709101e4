/-! ===== the model reckons an expression: names ===== -/
section S90
variable {T : List Int32} {c : Nat} {p : DP} {e fe : Nat → Option VL} {nm : Nat → Prop} {m m' : Hp} {d : DR}
theorem xs_name {l : Nat} {V : List VL} (hl : l < 26) (hV : V.length < 27) : xs p 1 (Int32.ofNat l) (e, V, d) = some (match e l with
    | none => (1, e, V, d)
    | some v => (0, e, v :: V, d)) := by
  unfold xs
  rw [if_neg (by decide), if_pos rfl, u_cl (by omega)]
  show (match e l with
    | none => some ((1 : Int32), ((e, V, d) : PM))
    | some v => if V.length < 27 then some (0, e, v :: V, d) else none) = _
  cases e l with
  | none => rfl
  | some v => simp only [hV, if_true]
theorem w_len_1130 : w_len 1130 = 400 := by decide +kernel
theorem w_len_1131 : w_len 1131 = 234 := by decide +kernel
theorem w_len_1132 : w_len 1132 = 9 := by decide +kernel
/-- a value goes from a row to the top of the stack -/
theorem m_193t {r o h : Nat} {v : VL} (hr : (r = 1131 ∧ o + 9 ≤ 234) ∨ (r = 1132 ∧ o = 0)) (hh : h < 40) (Hv : mv m r o (some v)) (h72 : m 1076 72 = Int32.ofNat h) : ∃ m', p_193 m r (Int32.ofNat o) 1130 (9 * (m 1076 72)) = some m' ∧ mv m' 1130 (9 * h) (some v) ∧ w_fr (fun q => q = 1130) m m' ∧ ∀ b, b < 9 * h ∨ 9 * h + 9 ≤ b → m' 1130 b = m 1130 b := by
  have hne : r ≠ 1130 := by rcases hr with ⟨rfl, -⟩ | ⟨rfl, -⟩ <;> decide
  have hl : o + 9 ≤ w_len r ∧ w_len r ≤ 100000 := by
    rcases hr with ⟨rfl, hr⟩ | ⟨rfl, rfl⟩
    · rw [w_len_1131]; omega
    · rw [w_len_1132]; omega
  rw [h72, u_9, m_193 hl.1 (by rw [w_len_1130]; omega) hl.2 (by rw [w_len_1130]; omega) (Or.inl hne)]
  exact ⟨_, rfl, mv_cp Hv, fun q hq => funext fun b => w_fi_q hq, fun b hb => w_fi_b (by omega)⟩
theorem st_let {a l : Nat} {O : List (Int32 × Nat)} {V : List VL} {r : Int32 × PM} (hl : l < 26) (hn : nm l) (hc : cat T a = Int32.ofNat (97 + l)) (hV : V.length < 27) (hx : xs p 1 (Int32.ofNat l) (e, V, d) = some r) : (r.1 = 0 → gR T c p e fe nm (a, O, V, d, true) (a + 1, O, r.2.2.1, r.2.2.2, false)) ∧ (¬ r.1 = 0 → gX T c p e fe nm (a, O, V, d, true) r.1 r.2.2.2) := by
  rw [xs_name hl hV] at hx
  have hlt : a < T.length := cat_ne (by rw [hc]; exact u_m1 (by omega))
  have hL : isL (cat T a) = true := by
    rw [hc]
    have : ∀ l, l < 26 → isL (Int32.ofNat (97 + l)) = true := by decide
    exact this l hl
  have e2 : v_149 (cs0 T a) = 0 := by
    rw [m_149, cs_D]
    have : isD (cat T a) = false := by
      cases h : isD (cat T a) with
      | false => rfl
      | true => exact absurd h (L_ne hL).1
    rw [this]; rfl
  have e3 : ¬ v_148 (cs0 T a) = 0 := by
    rw [m_148, cs_L, hL]; decide
  have ex : cs0 T a = Int32.ofNat (97 + l) := by
    rw [← hc]; unfold cs0 cat; rw [if_pos hlt, if_pos hlt]
  have e1 : (if cs0 T a = 35 then 1 else (if cs0 T a = 40 then 1 else (if cs0 T a = 91 then 1 else 0 : Int32) : Int32) : Int32) = 0 := by
    have n := (L_ne hL).2.2.2
    have n1 : ¬ cs0 T a = 35 := fun h => n.1 ((cs_eq (by decide) (by decide)).mp h)
    have n2 : ¬ cs0 T a = 40 := fun h => n.2.1 ((cs_eq (by decide) (by decide)).mp h)
    have n3 : ¬ cs0 T a = 91 := fun h => n.2.2 ((cs_eq (by decide) (by decide)).mp h)
    rw [if_neg n1, if_neg n2, if_neg n3]
  have go : ∀ m, EV T c p e fe nm m (a, O, V, d, true) → l_207_8 1 m = (p_197 (w_up m 1076 67 (Int32.ofNat (a + 1))) (Int32.ofNat (97 + l))).bind fun z => some (.inl (0, z)) := by
    intro m H
    obtain ⟨s1, s2⟩ := EV_sign H
    have h67 : m 1076 67 = Int32.ofNat a := H.2.1
    rw [EV_part H]
    unfold q_207_28
    rw [s2, s1]
    simp only [w_gd]
    rw [if_neg (by decide)]
    rw [e1]
    unfold p_204
    rw [e2, if_pos rfl]
    simp only [w_let, h67, u_S]
    rw [if_neg e3, ex]
    cases p_197 (w_up m 1076 67 (Int32.ofNat (a + 1))) (Int32.ofNat (97 + l)) <;> rfl
  have fin : ∀ m m' v, EV T c p e fe nm m (a + 1, O, V, d, true) → w_fr (fun q => q = 1130 ∨ q = 1132) m m' → mv m' 1130 (9 * V.length) (some v) → (∀ b, b < 9 * V.length ∨ 9 * V.length + 9 ≤ b → m' 1130 b = m 1130 b) → EV T c p e fe nm (w_up m' 1076 72 (m' 1076 72 + 1)) (a + 1, O, v :: V, d, false) ∧ evf c m (w_up m' 1076 72 (m' 1076 72 + 1)) := by
    intro m m' v H hf hv hb
    have f : evf c m (w_up m' 1076 72 (m' 1076 72 + 1)) := by
      refine ⟨fun q hq => ?_, fun b _ _ h3 _ _ _ _ => ?_, fun b _ => ?_⟩
      · unfold evfP at hq
        exact funext fun b => by rw [w_up_q (by omega), hf q (by omega)]
      · rw [w_up_b h3, hf 1076 (by decide)]
      · rw [w_up_q (by decide), hf 1095 (by decide)]
    have k72 : m' 1076 72 = Int32.ofNat V.length := by rw [hf 1076 (by decide)]; exact H.2.2.2.2.2.2.2.2.1
    refine ⟨EV_push H f ?_ (Nat.le_refl _) H.2.2.1 hV ?_ ?_ ?_ ?_ ?_ ?_ (fun b hb2 => ?_) ?_ ?_, f⟩
    · rw [w_up_b (by decide), hf 1076 (by decide)]; exact H.2.1
    · exact funext fun b => by rw [w_up_q (by decide), hf 1128 (by decide)]
    · exact funext fun b => by rw [w_up_q (by decide), hf 1129 (by decide)]
    · rw [w_up_b (by decide), hf 1076 (by decide)]
    · rw [w_up_b (by decide), hf 1076 (by decide)]
    · rw [w_up_b (by decide), hf 1076 (by decide)]
    · exact mv_b hv (fun b _ _ => w_up_q (by decide))
    · rw [w_up_q (by decide)]; exact hb b (Or.inl hb2)
    · rw [w_up_at, k72, u_S]
    · exact dm_fr H.2.2.2.2.2.2.2.2.2.2.2 (funext fun b => by rw [w_up_q (by decide), hf 1095 (by decide)]) (funext fun b => by rw [w_up_q (by decide), hf 1099 (by decide)]) (fun b _ _ h3 _ _ => by rw [w_up_b h3, hf 1076 (by decide)])
  cases hel : e l with
  | none =>
    rw [hel] at hx
    have hr : r = (1, e, V, d) := by cases hx; rfl
    subst hr
    refine ⟨fun h => absurd h (show ¬ (1 : Int32) = 0 by decide), fun _ => gX_1 (fun m H => ?_)⟩
    have hT := H.1.1.1
    have H1 : EV T c p e fe nm (w_up m 1076 67 (Int32.ofNat (a + 1))) (a + 1, O, V, d, true) := EV_67 H (Nat.le_succ a) hlt
    generalize hg : w_up m 1076 67 (Int32.ofNat (a + 1)) = g at H1
    have hf0 : evf c m g := by rw [← hg]; exact evf_67
    have hN := H1.1.2.2 l hl hn
    have nb : ¬ bt (g 1076 74) l = true := fun hb => by
      obtain ⟨v, ev⟩ := (hN.1 hb).1
      rw [hel] at ev; cases ev
    have efe : fe l = none := by rw [← hN.2 nb]; exact hel
    obtain ⟨g1, b1, b2, b3⟩ := H1.1.2.1 g evf_refl l hl
    rw [efe] at b1
    have k77 : g 1076 77 = Int32.ofNat c := H1.2.2.2.2.2.2.2.2.2.2.2.2.1
    obtain ⟨g2, c1, c2, c3, c4, c5⟩ := m_195 (m := g1) (e := 1) (x := g1 1076 80) (by rw [b3 1076 (by decide)]; exact H1.2.2.2.2.2.2.2.2.2.1) (by rw [b3 1076 (by decide)]; exact H1.2.2.2.2.2.2.2.2.2.2.1) (by decide)
    have hf1 : evf c g g2 := evf_trans (evf_f b3) ⟨w_fr_mono c4 (fun q hq => by unfold evfP; omega), fun b _ _ _ h4 h5 _ _ => c5 b h4 h5, fun b _ => by rw [c4 1095 (by decide)]⟩
    refine ⟨0, g2, ?_, evf_trans hf0 hf1, (show ¬ (1 : Int32) = 0 by decide), c2, ?_, ?_⟩
    · show l_207_8 1 m = _
      rw [go m H, hg]
      unfold p_197
      rw [s_162 hl, if_pos ((u_bit (by omega)).mpr nb), k77, b1]
      simp only [Option.bind_some]
      rw [if_pos (by rfl), c1]
      rfl
    · rw [c3, b3 1076 (by decide), hf0.2.1 80 (by decide) (by decide) (by decide) (by decide) (by decide) (by decide) (by decide)]
    · have D := H1.2.2.2.2.2.2.2.2.2.2.2
      exact dm_fr D (by rw [c4 1095 (by decide), b3 1095 (by decide)]) (by rw [c4 1099 (by decide), b3 1099 (by decide)]) (fun b _ _ _ h4 h5 => by rw [c5 b h4 h5, b3 1076 (by decide)])
  | some v =>
    rw [hel] at hx
    have hr : r = (0, e, v :: V, d) := by cases hx; rfl
    subst hr
    refine ⟨fun _ => gR_1 (Nat.lt_succ_self a) (fun m H => ?_), fun h => absurd rfl h⟩
    have H1 : EV T c p e fe nm (w_up m 1076 67 (Int32.ofNat (a + 1))) (a + 1, O, V, d, true) := EV_67 H (Nat.le_succ a) hlt
    generalize hg : w_up m 1076 67 (Int32.ofNat (a + 1)) = g at H1
    have hf0 : evf c m g := by rw [← hg]; exact evf_67
    have hN := H1.1.2.2 l hl hn
    have k72 : g 1076 72 = Int32.ofNat V.length := H1.2.2.2.2.2.2.2.2.1
    have e97 : Int32.ofNat (97 + l) - 97 = Int32.ofNat l := by
      have := u_subL (a := 97 + l) (n := 97) (by omega)
      rw [show 97 + l - 97 = l by omega] at this
      exact this
    by_cases hb : bt (g 1076 74) l = true
    · obtain ⟨-, hv⟩ := hN.1 hb
      rw [hel] at hv
      obtain ⟨g1, a1, a2, a3, a4⟩ := m_193t (h := V.length) (Or.inl ⟨rfl, by omega⟩) (by omega) hv k72
      obtain ⟨E, F⟩ := fin g g1 v H1 (w_fr_mono a3 (fun q hq => Or.inl hq)) a2 a4
      refine ⟨_, ?_, E, evf_trans hf0 F⟩
      show l_207_8 1 m = _
      rw [go m H, hg]
      unfold p_197
      rw [s_162 hl, if_neg (fun h => (u_bit (by omega)).mp h hb), e97, u_9, a1]
      rfl
    · have efe : fe l = some v := by rw [← hN.2 hb]; exact hel
      obtain ⟨g1, b1, b2, b3⟩ := H1.1.2.1 g evf_refl l hl
      rw [efe] at b1 b2
      have k77 : g 1076 77 = Int32.ofNat c := H1.2.2.2.2.2.2.2.2.2.2.2.2.1
      have k72' : g1 1076 72 = Int32.ofNat V.length := by rw [b3 1076 (by decide)]; exact k72
      obtain ⟨g2, a1, a2, a3, a4⟩ := m_193t (h := V.length) (o := 0) (Or.inr ⟨rfl, rfl⟩) (by omega) b2 k72'
      obtain ⟨E, F⟩ := fin g g2 v H1 (w_fr_trans (w_fr_mono b3 (fun q hq => Or.inr hq)) (w_fr_mono a3 (fun q hq => Or.inl hq))) a2 (fun b hb => by rw [a4 b hb, b3 1130 (by decide)])
      refine ⟨_, ?_, E, evf_trans hf0 F⟩
      show l_207_8 1 m = _
      rw [go m H, hg]
      unfold p_197
      rw [s_162 hl, if_pos ((u_bit (by omega)).mpr hb), k77, b1]
      simp only [Option.bind_some]
      rw [if_neg (show ¬ ofB (some v).isSome = 0 from (by decide : ¬ ofB true = 0))]
      rw [show (0 : Int32) = Int32.ofNat 0 from rfl, a1]
      rfl
end S90
