/-! ===== the model reckons an expression: what closes ===== -/
section S91
variable {T : List Int32} {c : Nat} {p : DP} {e fe : Nat → Option VL} {nm : Nat → Prop} {m m' : Hp} {d : DR}
theorem xs_10 {n : Nat} {V : List VL} {l : List Int32} (h0 : 0 < n) (h8 : n ≤ 8) (hn : n ≤ V.length) (hl : nums (V.take n) = some l) : xs p 10 (Int32.ofNat n) (e, V, d) = some (0, e, .inr l.reverse :: V.drop n, d) := by
  show (if 0 < (Int32.ofNat n).toNatClampNeg ∧ (Int32.ofNat n).toNatClampNeg ≤ 8 ∧ (Int32.ofNat n).toNatClampNeg ≤ V.length then (match nums (V.take (Int32.ofNat n).toNatClampNeg) with
    | some l => some (0, e, .inr l.reverse :: V.drop (Int32.ofNat n).toNatClampNeg, d)
    | none => none) else none : Option (Int32 × PM)) = _
  rw [u_cl (by omega), if_pos ⟨h0, h8, hn⟩, hl]
theorem mvs_drop : ∀ (n : Nat) {V : List VL}, mvs m V → mvs m (V.drop n) := by
  intro n
  induction n with
  | zero => intro V H; exact H
  | succ n ih =>
    intro V H
    cases V with
    | nil => exact H
    | cons v V => exact ih H.2
theorem mvs_at : ∀ (n : Nat) (V : List VL) (l : List Int32), n ≤ V.length → mvs m V → nums (V.take n) = some l → ∀ i, i < n → m 1130 (9 * (V.length - n + i) + 1) = l.reverse.getD i 0 := by
  intro n
  induction n with
  | zero => intro V l _ H _ i hi; exact absurd hi (Nat.not_lt_zero i)
  | succ n ih =>
    intro V l hn H hl i hi
    cases V with
    | nil => simp at hn
    | cons v V =>
      rw [List.take_succ_cons] at hl
      cases v with
      | inr _ => cases hl
      | inl a =>
        simp only [nums, Option.map_eq_some_iff] at hl
        obtain ⟨l', h1, rfl⟩ := hl
        have hn' : n ≤ V.length := by simpa using hn
        have i1 := ih V l' hn' H.2 h1
        have hlen : l'.length = n := by rw [nums_len _ _ h1, List.length_take]; omega
        rw [List.length_cons, show V.length + 1 - (n + 1) = V.length - n by omega, List.reverse_cons, List.getD_eq_getElem?_getD]
        by_cases c : i = n
        · subst c
          rw [show V.length - i + i = V.length by omega, List.getElem?_append_right (by rw [List.length_reverse]; omega), List.length_reverse, hlen, Nat.sub_self]
          exact H.1.2
        · rw [List.getElem?_append_left (by rw [List.length_reverse]; omega), i1 i (by omega), List.getD_eq_getElem?_getD]
/-- a sign that closes: flushing, then the rest -/
theorem st_cl {a : Nat} {Q O : List (Int32 × Nat)} {V : List VL} {y : Int32} {r : Int32 × PM} (hy : y = 41 ∨ y = 93 ∨ y = 44) (hc : cat T a = y) (hQ : opsN 1 Q) (hO : low 1 O) (hx : fls p Q (e, V, d) = some r) (H : EV T c p e fe nm m (a, Q ++ O, V, d, false)) : ∃ g, evf c m g ∧ (r.1 = 0 → EV T c p e fe nm g (a + 1, O, r.2.2.1, r.2.2.2, false) ∧ l_207_8 0 m = ((if y = 41 then q_206_29 g y else (w_gd (g_199 ((g 1076 72) - 1)) <| if (v_199 g ((g 1076 72) - 1)) = 0 then ((p_195 g 2 (g 1076 80)).bind fun z => some z) else (q_206_29 g y))).bind fun z => some (.inl ((if y = 44 then 1 else 0 : Int32), z)))) ∧ (¬ r.1 = 0 → EX c p m g r.1 r.2.2.2 ∧ ∃ n, l_207_8 0 m = some (.inl (n, g))) := by
  have n1 : ¬ y = -1 := by rcases hy with rfl | rfl | rfl <;> decide
  have n0 : ¬ y = 0 := by rcases hy with rfl | rfl | rfl <;> decide
  have n59 : ¬ y = 59 := by rcases hy with rfl | rfl | rfl <;> decide
  have hlt : a < T.length := cat_eq hc n1
  obtain ⟨m1, a1, a2, a3, a4, a5, -⟩ := m_202 H hQ hO hx
  have h67 : m1 1076 67 = Int32.ofNat a := a3.trans H.2.1
  have step : l_207_8 0 m = q_207_90 m y := by
    rw [EV_rest (t := (a, Q ++ O, V, d, false)) H hc n1 n59]
    obtain ⟨s1, s2⟩ := EV_sign H
    have s3 : v_150 m = y := s1.trans ((cs_eq n0 n1).mpr hc)
    unfold q_207_28
    rw [s2, s3, if_pos rfl]
    simp only [w_gd]
    rcases hy with rfl | rfl | rfl
    · rw [if_neg (by decide), if_neg (by decide), if_neg (by decide), if_neg (by decide), if_pos rfl]
    · rw [if_neg (by decide), if_neg (by decide), if_neg (by decide), if_neg (by decide), if_neg (by decide), if_pos rfl]
    · rw [if_neg (by decide), if_neg (by decide), if_neg (by decide), if_neg (by decide), if_neg (by decide), if_neg (by decide), if_pos rfl]
  have e75 : w_up m1 1076 67 (Int32.ofNat (a + 1)) 1076 75 = m1 1076 75 := w_up_b (by decide)
  refine ⟨w_up m1 1076 67 (Int32.ofNat (a + 1)), evf_trans a2 evf_67, fun h0 => ?_, fun h0 => ?_⟩
  · have H1 := a4 h0
    refine ⟨EV_67 H1 (Nat.le_succ a) hlt, ?_⟩
    rw [step]
    unfold q_207_90 p_206
    rw [a1]
    simp only [Option.bind_some, w_let, h67, u_S]
    rw [e75, if_pos H1.2.2.2.2.2.2.2.2.2.1]
  · have H1 := a5 h0
    refine ⟨⟨h0, e75.trans H1.2.1, ?_, dm_fr H1.2.2.2 (funext fun b => w_up_q (by decide)) (funext fun b => w_up_q (by decide)) (fun b h1 _ _ _ _ => w_up_b h1)⟩, (if y = 44 then 1 else 0 : Int32), ?_⟩
    · rw [w_up_b (by decide)]; exact H1.2.2.1
    · rw [step]
      unfold q_207_90 p_206
      rw [a1]
      simp only [Option.bind_some, w_let, h67, u_S]
      rw [e75, if_neg (by rw [H1.2.1]; exact h0)]
      rfl
/-- ) -/
theorem st_par {a k : Nat} {Q O : List (Int32 × Nat)} {V : List VL} {r : Int32 × PM} (hc : cat T a = 41) (hQ : opsN 1 Q) (hx : fls p Q (e, V, d) = some r) : (r.1 = 0 → gR T c p e fe nm (a, Q ++ (40, k) :: O, V, d, false) (a + 1, O, r.2.2.1, r.2.2.2, false)) ∧ (¬ r.1 = 0 → gX T c p e fe nm (a, Q ++ (40, k) :: O, V, d, false) r.1 r.2.2.2) := by
  have hlow : low 1 ((40, k) :: O) := fun x y h => by cases h; exact (by decide : v_201 40 < 1)
  refine ⟨fun h0 => gR_1 (Nat.lt_succ_self a) (fun m H => ?_), fun h0 => gX_1 (fun m H => ?_)⟩
  · obtain ⟨g, f, b1, -⟩ := st_cl (Or.inl rfl) hc hQ hlow hx H
    obtain ⟨H1, b2⟩ := b1 h0
    have hT := H.1.1.1
    have hO : O.length + 1 ≤ a + 1 := H1.2.2.2.2.1
    have ha : a + 1 ≤ T.length := H1.2.2.1
    have e70 : g 1076 70 - 1 = Int32.ofNat O.length := by
      rw [H1.2.2.2.2.2.1]
      have := u_subL (a := O.length + 1) (n := 1) (by omega)
      exact this
    refine ⟨w_up g 1076 70 (Int32.ofNat O.length), ?_, ?_, evf_trans f ⟨w_fr_up (w_fr_refl _ _) (Or.inl rfl), fun b _ h2 _ _ _ _ _ => w_up_b h2, fun b _ => w_up_q (by decide)⟩⟩
    · show l_207_8 0 m = _
      rw [b2, if_pos rfl]
      unfold q_206_29
      rw [if_neg (by decide), e70]
      simp only [w_let]
      rw [if_neg (by decide)]
      rfl
    · obtain ⟨h1, h2, h3, h4, h5, h6, h7, h8, h9, h10, h11, h12⟩ := H1
      refine ⟨EVB_evf h1 ⟨w_fr_up (w_fr_refl _ _) (Or.inl rfl), fun b _ h2 _ _ _ _ _ => w_up_b h2, fun b _ => w_up_q (by decide)⟩, ?_, h3, mk_up _ h4.2.2.2 (Or.inl rfl), ?_, w_up_at, mvs_b h7 (fun b _ => w_up_q (by decide)), h8, ?_, ?_, ?_, dm_fr h12 (funext fun b => w_up_q (by decide)) (funext fun b => w_up_q (by decide)) (fun b _ h2 _ _ _ => w_up_b h2)⟩
      · rw [w_up_b (by decide)]; exact h2
      · show O.length ≤ a + 1; omega
      · rw [w_up_b (by decide)]; exact h9
      · rw [w_up_b (by decide)]; exact h10
      · rw [w_up_b (by decide)]; exact h11
  · obtain ⟨g, f, -, b1⟩ := st_cl (Or.inl rfl) hc hQ hlow hx H
    obtain ⟨b2, n, b3⟩ := b1 h0
    exact ⟨n, g, b3, f, b2⟩
/-- the end of an item: it is a number, or an error -/
theorem st_it {a k : Nat} {Q O : List (Int32 × Nat)} {V : List VL} {y : Int32} {r : Int32 × PM} (hy : y = 93 ∨ y = 44) (hc : cat T a = y) (hQ : opsN 1 Q) (hx : fls p Q (e, V, d) = some r) (h0 : r.1 = 0) {v : VL} {V0 : List VL} (hr : r.2.2.1 = v :: V0) (H : EV T c p e fe nm m (a, Q ++ (91, k) :: O, V, d, false)) : ∃ g, evf c m g ∧ ((∃ x, v = .inl x) → EV T c p e fe nm g (a + 1, (91, k) :: O, r.2.2.1, r.2.2.2, false) ∧ l_207_8 0 m = (q_206_29 g y).bind fun z => some (.inl ((if y = 44 then 1 else 0 : Int32), z))) ∧ ((∃ l, v = .inr l) → EX c p m g 2 r.2.2.2 ∧ ∃ n, l_207_8 0 m = some (.inl (n, g))) := by
  have hlow : low 1 ((91, k) :: O) := fun x y h => by cases h; exact (by decide : v_201 91 < 1)
  have n41 : ¬ y = 41 := by rcases hy with rfl | rfl <;> decide
  obtain ⟨g, f, b1, -⟩ := st_cl (y := y) (Or.inr hy) hc hQ hlow hx H
  obtain ⟨H1, b2⟩ := b1 h0
  have H1' := H1
  obtain ⟨h1, h2, h3, h4, h5, h6, h7, h8, h9, h10, h11, h12⟩ := H1
  dsimp only at h7 h8 h9
  rw [hr] at h7 h8 h9
  have h8' : V0.length + 1 ≤ 27 := h8
  have e72 : g 1076 72 - 1 = Int32.ofNat V0.length := by
    rw [h9]
    have := u_subL (a := V0.length + 1) (n := 1) (by omega)
    exact this
  obtain ⟨n1, n2⟩ := m_199 (show V0.length < 40 by omega) h7.1
  rw [if_neg n41, e72, n1, n2] at b2
  simp only [w_gd] at b2
  cases v with
  | inl x =>
    rw [if_neg (show ¬ ofB (vNum (some (Sum.inl x : VL))) = 0 from (by decide : ¬ ofB true = 0))] at b2
    exact ⟨g, f, fun _ => ⟨H1', b2⟩, fun ⟨l, h⟩ => by cases h⟩
  | inr l =>
    rw [if_pos (by rfl)] at b2
    obtain ⟨m2, c1, c2, c3, c4, c5⟩ := m_195 (m := g) (e := 2) (x := g 1076 80) h10 h11 (by decide)
    rw [c1] at b2
    refine ⟨m2, evf_trans f ⟨w_fr_mono c4 (fun q hq => by unfold evfP; omega), fun b _ _ _ h4 h5 _ _ => c5 b h4 h5, fun b _ => by rw [c4 1095 (by decide)]⟩, fun ⟨x, h⟩ => (by cases h), fun _ => ⟨⟨by decide, c2, ?_, ?_⟩, _, b2⟩⟩
    · rw [c3]; exact f.2.1 80 (by decide) (by decide) (by decide) (by decide) (by decide) (by decide) (by decide)
    · exact dm_fr h12 (by rw [c4 1095 (by decide)]) (by rw [c4 1099 (by decide)]) (fun b _ _ _ h4 h5 => c5 b h4 h5)
end S91
