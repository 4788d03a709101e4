/-! ===== the model reckons an expression: rows ===== -/
section S92
variable {T : List Int32} {c : Nat} {p : DP} {e fe : Nat → Option VL} {nm : Nat → Prop} {m m' : Hp} {d : DR}
/-- , -/
theorem st_com {a k : Nat} {Q O : List (Int32 × Nat)} {V : List VL} {r : Int32 × PM} (hk : k < 8) (hc : cat T a = 44) (hQ : opsN 1 Q) (hx : fls p Q (e, V, d) = some r) : (¬ r.1 = 0 → gX T c p e fe nm (a, Q ++ (91, k) :: O, V, d, false) r.1 r.2.2.2) ∧ ∀ v V0, r.1 = 0 → r.2.2.1 = v :: V0 → ((∃ x, v = .inl x) → gR T c p e fe nm (a, Q ++ (91, k) :: O, V, d, false) (a + 1, (91, k + 1) :: O, r.2.2.1, r.2.2.2, true)) ∧ ((∃ l, v = .inr l) → gX T c p e fe nm (a, Q ++ (91, k) :: O, V, d, false) 2 r.2.2.2) := by
  have hlow : low 1 ((91, k) :: O) := fun x y h => by cases h; exact (by decide : v_201 91 < 1)
  refine ⟨fun h0 => gX_1 (fun m H => ?_), fun v V0 h0 hr => ⟨fun hv => gR_1 (Nat.lt_succ_self a) (fun m H => ?_), fun hv => gX_1 (fun m H => ?_)⟩⟩
  · obtain ⟨g, f, -, b1⟩ := st_cl (Or.inr (Or.inr rfl)) hc hQ hlow hx H
    obtain ⟨b2, n, b3⟩ := b1 h0
    exact ⟨n, g, b3, f, b2⟩
  · obtain ⟨g, f, b1, -⟩ := st_it (Or.inr rfl) hc hQ hx h0 hr H
    obtain ⟨H1, b2⟩ := b1 hv
    obtain ⟨h1, h2, h3, h4, h5, h6, h7, h8, h9, h10, h11, h12⟩ := H1
    have hT := h1.1.1
    have hO : O.length + 1 ≤ a + 1 := h5
    have ha : a + 1 ≤ T.length := h3
    have e70 : g 1076 70 - 1 = Int32.ofNat O.length := by
      rw [h6]
      have := u_subL (a := O.length + 1) (n := 1) (by omega)
      exact this
    have hk' : g 1129 O.length = Int32.ofNat k := h4.2.1
    have f1 : evf c g (w_up g 1129 O.length (Int32.ofNat (k + 1))) := ⟨w_fr_up (w_fr_refl _ _) (by unfold evfP; omega), fun b _ _ _ _ _ _ _ => w_up_q (by decide), fun b _ => w_up_q (by decide)⟩
    refine ⟨w_up g 1129 O.length (Int32.ofNat (k + 1)), ?_, ?_, evf_trans f f1⟩
    · show l_207_8 0 m = _
      rw [b2]
      unfold q_206_29
      rw [if_pos rfl, e70, u_ix (by omega) (by decide), u_cl (by omega), hk', u_S]
      rfl
    · refine ⟨EVB_evf h1 f1, ?_, h3, ⟨?_, w_up_at, hk, mk_up _ h4.2.2.2 (Or.inr (Nat.le_refl _))⟩, h5, ?_, mvs_b h7 (fun b _ => w_up_q (by decide)), h8, ?_, ?_, ?_, dm_fr h12 (funext fun b => w_up_q (by decide)) (funext fun b => w_up_q (by decide)) (fun b _ h2 _ _ _ => w_up_q (by decide))⟩
      · rw [w_up_q (by decide)]; exact h2
      · rw [w_up_q (by decide)]; exact h4.1
      · rw [w_up_q (by decide)]; exact h6
      · rw [w_up_q (by decide)]; exact h9
      · rw [w_up_q (by decide)]; exact h10
      · rw [w_up_q (by decide)]; exact h11
  · obtain ⟨g, f, -, b1⟩ := st_it (Or.inr rfl) hc hQ hx h0 hr H
    obtain ⟨b2, n, b3⟩ := b1 hv
    exact ⟨n, g, b3, f, b2⟩
/-- ] -/
theorem st_rend {a k : Nat} {Q O : List (Int32 × Nat)} {V : List VL} {r : Int32 × PM} (hk0 : 0 < k) (hk : k ≤ 8) (hc : cat T a = 93) (hQ : opsN 1 Q) (hx : fls p Q (e, V, d) = some r) : (¬ r.1 = 0 → gX T c p e fe nm (a, Q ++ (91, k) :: O, V, d, false) r.1 r.2.2.2) ∧ ∀ v V0, r.1 = 0 → r.2.2.1 = v :: V0 → (∀ l, nums (r.2.2.1.take k) = some l → k ≤ r.2.2.1.length → gR T c p e fe nm (a, Q ++ (91, k) :: O, V, d, false) (a + 1, O, .inr l.reverse :: r.2.2.1.drop k, r.2.2.2, false)) ∧ ((∃ l, v = .inr l) → gX T c p e fe nm (a, Q ++ (91, k) :: O, V, d, false) 2 r.2.2.2) := by
  have hlow : low 1 ((91, k) :: O) := fun x y h => by cases h; exact (by decide : v_201 91 < 1)
  refine ⟨fun h0 => gX_1 (fun m H => ?_), fun v V0 h0 hr => ⟨fun l hl hkl => gR_1 (Nat.lt_succ_self a) (fun m H => ?_), fun hv => gX_1 (fun m H => ?_)⟩⟩
  · obtain ⟨g, f, -, b1⟩ := st_cl (Or.inr (Or.inl rfl)) hc hQ hlow hx H
    obtain ⟨b2, n, b3⟩ := b1 h0
    exact ⟨n, g, b3, f, b2⟩
  · obtain ⟨g, f, b1, -⟩ := st_it (Or.inl rfl) hc hQ hx h0 hr H
    have hv : ∃ x, v = .inl x := by
      rw [hr] at hl
      obtain ⟨k', rfl⟩ : ∃ j, k = j + 1 := ⟨k - 1, by omega⟩
      rw [List.take_succ_cons] at hl
      cases v with
      | inl x => exact ⟨x, rfl⟩
      | inr l => cases hl
    obtain ⟨H1, b2⟩ := b1 hv
    obtain ⟨h1, h2, h3, h4, h5, h6, h7, h8, h9, h10, h11, h12⟩ := H1
    dsimp only at h7 h8 h9
    have hT := h1.1.1
    have hO : O.length + 1 ≤ a + 1 := h5
    have ha : a + 1 ≤ T.length := h3
    have hall := mvs_at k _ l hkl h7 hl
    have hlen : l.length = k := by rw [nums_len _ _ hl, List.length_take]; omega
    generalize hW : r.2.2.1 = W at *
    generalize hB : W.length - k = B at *
    have hWB : W.length = B + k := by omega
    have e70 : g 1076 70 - 1 = Int32.ofNat O.length := by
      rw [h6]
      have := u_subL (a := O.length + 1) (n := 1) (by omega)
      exact this
    have hk' : g 1129 O.length = Int32.ofNat k := h4.2.1
    have eB : g 1076 72 - Int32.ofNat k = Int32.ofNat B := by
      rw [h9, hWB]
      have := u_sub (a := B + k) (b := k) (by omega)
      rw [Nat.add_sub_cancel] at this
      exact this
    generalize hg2 : w_up (w_up g 1076 70 (Int32.ofNat O.length)) 1076 72 (Int32.ofNat B) = g2
    have g2q : ∀ q, q ≠ 1076 → g2 q = g q := fun q hq => by subst hg2; exact funext fun b => by rw [w_up_q hq, w_up_q hq]
    have g2b : ∀ b, b ≠ 70 → b ≠ 72 → g2 1076 b = g 1076 b := fun b n1 n2 => by subst hg2; rw [w_up_b n2, w_up_b n1]
    have g270 : g2 1076 70 = Int32.ofNat O.length := by subst hg2; rw [w_up_b (by decide), w_up_at]
    have g272 : g2 1076 72 = Int32.ofNat B := by subst hg2; exact w_up_at
    have lp : w_lp (fun (s : Int32 × Hp) => l_206_67 (Int32.ofNat k) s.1 s.2) w_N (0, g2) = some (w_fi g2 1132 1 k (fun j => g 1130 (9 * (B + j) + 1))) := by
      rw [show ((0, g2) : Int32 × Hp) = (Int32.ofNat 0, w_fi g2 1132 1 0 (fun j => g 1130 (9 * (B + j) + 1))) by rw [w_fi0]; rfl]
      refine u_for (N := w_N) (fun i => (Int32.ofNat i, w_fi g2 1132 1 i (fun j => g 1130 (9 * (B + j) + 1)))) k (by unfold w_N; omega) ?_ ?_
      · intro i hi
        have hlt : Int32.ofNat i < Int32.ofNat k := (u_lt (by omega) (by omega)).mpr hi
        have ea : Int32.ofNat B + Int32.ofNat i = Int32.ofNat (B + i) := u_add _ _
        have es : Int32.ofNat (9 * (B + i)) + 1 = Int32.ofNat (9 * (B + i) + 1) := u_S _
        have ei : Int32.ofNat i + 1 = Int32.ofNat (i + 1) := u_S _
        simp (disch := omega) only [l_206_67, hlt, if_true, w_fi_q, g272, ea, u_9, es, ei, u_ix, u_cl, w_gd, w_let]
        have e := w_fiS g2 1132 1 i (fun j => g 1130 (9 * (B + j) + 1))
        rw [Nat.add_comm 1 i] at e
        rw [g2q 1130 (by decide), e]
      · have hlt : ¬ Int32.ofNat k < Int32.ofNat k := fun h => by have := (u_lt (by omega) (by omega)).mp h; omega
        simp only [l_206_67, hlt, if_false]
    generalize hg3 : w_up (w_fi g2 1132 1 k (fun j => g 1130 (9 * (B + j) + 1))) 1132 0 (Int32.ofNat k) = g3
    have g3q : ∀ q, q ≠ 1132 → g3 q = g2 q := fun q hq => by subst hg3; exact funext fun b => by rw [w_up_q hq, w_fi_q hq]
    have hv3 : mv g3 1132 0 (some (.inr l.reverse)) := by
      subst hg3
      refine ⟨by rw [List.length_reverse]; omega, ?_, fun j hj => ?_⟩
      · rw [w_up_at, List.length_reverse, hlen]
      · rw [List.length_reverse, hlen] at hj
        rw [w_up_b (by omega), w_fi_at (by omega) (by omega), ← hall j hj]
        congr 2
        omega
    have e72 : g3 1076 72 = Int32.ofNat B := by rw [g3q 1076 (by decide)]; exact g272
    obtain ⟨g4, d1, d2, d3, d4⟩ := m_193t (h := B) (o := 0) (Or.inr ⟨rfl, rfl⟩) (by omega) hv3 e72
    have q4 : ∀ q, q ≠ 1130 → q ≠ 1132 → q ≠ 1076 → g4 q = g q := fun q n1 n2 n3 => by rw [d3 q n1, g3q q n2, g2q q n3]
    have b4 : ∀ b, b ≠ 70 → b ≠ 72 → g4 1076 b = g 1076 b := fun b n1 n2 => by rw [d3 1076 (by decide), g3q 1076 (by decide), g2b b n1 n2]
    have f4 : evf c g (w_up g4 1076 72 (Int32.ofNat (B + 1))) := by
      refine ⟨fun q hq => ?_, fun b _ n2 n3 _ _ _ _ => ?_, fun b _ => ?_⟩
      · unfold evfP at hq
        exact funext fun b => by rw [w_up_q (by omega), q4 q (by omega) (by omega) (by omega)]
      · rw [w_up_b n3, b4 b n2 n3]
      · rw [w_up_q (by decide), q4 1095 (by decide) (by decide) (by decide)]
    refine ⟨w_up g4 1076 72 (Int32.ofNat (B + 1)), ?_, ?_, evf_trans f f4⟩
    · show l_207_8 0 m = _
      rw [b2]
      unfold q_206_29
      rw [if_neg (by decide), e70]
      simp only [w_let, if_true]
      rw [w_up_at, u_ix (by omega) (by decide), u_cl (by omega), w_up_q (by decide), hk', w_up_b (by decide), eB, hg2]
      simp only [w_gd]
      rw [lp]
      simp only [Option.bind_some]
      rw [hg3, show (0 : Int32) = Int32.ofNat 0 from rfl, d1]
      simp only [Option.bind_some]
      rw [d3 1076 (by decide), e72, u_S]
      rfl
    · refine ⟨EVB_evf h1 f4, ?_, h3, mk_fr h4.2.2.2 (funext fun b => ?_) (funext fun b => ?_), ?_, ?_, ⟨?_, mvs_b (mvs_drop k h7) (fun b hb => ?_)⟩, ?_, ?_, ?_, ?_, dm_fr h12 (funext fun b => ?_) (funext fun b => ?_) (fun b _ n2 n3 _ _ => ?_)⟩
      · rw [w_up_b (by decide), b4 67 (by decide) (by decide)]; exact h2
      · rw [w_up_q (by decide), q4 1128 (by decide) (by decide) (by decide)]
      · rw [w_up_q (by decide), q4 1129 (by decide) (by decide) (by decide)]
      · show O.length ≤ a + 1; omega
      · rw [w_up_b (by decide), d3 1076 (by decide), g3q 1076 (by decide)]; exact g270
      · rw [List.length_drop, hWB, Nat.add_sub_cancel]
        exact mv_b d2 (fun b _ _ => w_up_q (by decide))
      · rw [List.length_drop, hWB, Nat.add_sub_cancel] at hb
        rw [w_up_q (by decide), d4 b (Or.inl hb), g3q 1130 (by decide), g2q 1130 (by decide)]
      · show (W.drop k).length + 1 ≤ 27
        rw [List.length_drop]
        have : W.length ≤ 27 := h8
        omega
      · rw [w_up_at]
        show _ = Int32.ofNat ((W.drop k).length + 1)
        rw [List.length_drop, hWB, Nat.add_sub_cancel]
      · rw [w_up_b (by decide), b4 75 (by decide) (by decide)]; exact h10
      · rw [w_up_b (by decide), b4 76 (by decide) (by decide)]; exact h11
      · rw [w_up_q (by decide), q4 1095 (by decide) (by decide) (by decide)]
      · rw [w_up_q (by decide), q4 1099 (by decide) (by decide) (by decide)]
      · rw [w_up_b n3, b4 b n2 n3]
  · obtain ⟨g, f, -, b1⟩ := st_it (Or.inl rfl) hc hQ hx h0 hr H
    obtain ⟨b2, n, b3⟩ := b1 hv
    exact ⟨n, g, b3, f, b2⟩
end S92
