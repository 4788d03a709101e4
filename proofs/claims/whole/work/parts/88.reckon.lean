/-! ===== the model reckons an expression: its steps ===== -/
section S88
variable (T : List Int32) (c : Nat) (p : DP) (e fe : Nat → Option VL) (nm : Nat → Prop)
/-- from t the loop comes to t' -/
def gR (t t' : MS) : Prop := ∀ m K, EV T c p e fe nm m t → 43 ≤ K + t.1 → ∃ m' K', 43 ≤ K' + t'.1 ∧ EV T c p e fe nm m' t' ∧ evf c m m' ∧ w_lp (fun (s : Int32 × Hp) => l_207_8 s.1 s.2) K (ofB t.2.2.2.2, m) = w_lp (fun (s : Int32 × Hp) => l_207_8 s.1 s.2) K' (ofB t'.2.2.2.2, m')
/-- from t the loop ends with the error x, d answers given -/
def gX (t : MS) (x : Int32) (d : DR) : Prop := ∀ m K, EV T c p e fe nm m t → 43 ≤ K + t.1 → ∃ m', w_lp (fun (s : Int32 × Hp) => l_207_8 s.1 s.2) K (ofB t.2.2.2.2, m) = some m' ∧ evf c m m' ∧ EX c p m m' x d
end S88
section S88b
variable {T : List Int32} {c : Nat} {p : DP} {e fe : Nat → Option VL} {nm : Nat → Prop} {t t' t'' : MS} {x : Int32} {d : DR}
theorem gR_refl : gR T c p e fe nm t t := fun m K H hK => ⟨m, K, hK, H, evf_refl, rfl⟩
theorem gR_trans (a : gR T c p e fe nm t t') (b : gR T c p e fe nm t' t'') : gR T c p e fe nm t t'' := by
  intro m K H hK
  obtain ⟨m1, K1, a1, a2, a3, a4⟩ := a m K H hK
  obtain ⟨m2, K2, b1, b2, b3, b4⟩ := b m1 K1 a2 a1
  exact ⟨m2, K2, b1, b2, evf_trans a3 b3, a4.trans b4⟩
theorem EX_evf {m m1 m2 : Hp} (f : evf c m m1) (h : EX c p m1 m2 x d) : EX c p m m2 x d :=
  ⟨h.1, h.2.1, by rw [h.2.2.1]; exact f.2.1 80 (by decide) (by decide) (by decide) (by decide) (by decide) (by decide) (by decide), h.2.2.2⟩
theorem gX_trans (a : gR T c p e fe nm t t') (b : gX T c p e fe nm t' x d) : gX T c p e fe nm t x d := by
  intro m K H hK
  obtain ⟨m1, K1, a1, a2, a3, a4⟩ := a m K H hK
  obtain ⟨m2, b1, b2, b3⟩ := b m1 K1 a2 a1
  exact ⟨m2, a4.trans b1, evf_trans a3 b2, EX_evf a3 b3⟩
theorem gR_1 (hp : t.1 < t'.1) (h : ∀ m, EV T c p e fe nm m t → ∃ m', l_207_8 (ofB t.2.2.2.2) m = some (.inl (ofB t'.2.2.2.2, m')) ∧ EV T c p e fe nm m' t' ∧ evf c m m') : gR T c p e fe nm t t' := by
  intro m K H hK
  have h1 := H.2.2.1
  have h2 := H.1.1.1
  obtain ⟨K, rfl⟩ : ∃ k, K = k + 1 := ⟨K - 1, by omega⟩
  obtain ⟨m', a1, a2, a3⟩ := h m H
  refine ⟨m', K, by omega, a2, a3, ?_⟩
  simp only [w_lp, a1]
theorem gX_1 (h : ∀ m, EV T c p e fe nm m t → ∃ n m', l_207_8 (ofB t.2.2.2.2) m = some (.inl (n, m')) ∧ evf c m m' ∧ EX c p m m' x d) : gX T c p e fe nm t x d := by
  intro m K H hK
  have h1 := H.2.2.1
  have h2 := H.1.1.1
  obtain ⟨K, rfl⟩ : ∃ k, K = k + 2 := ⟨K - 2, by omega⟩
  obtain ⟨n, m', a1, a2, a3⟩ := h m H
  refine ⟨m', ?_, a2, a3⟩
  have hst : l_207_8 n m' = some (.inr m') := by
    unfold l_207_8
    rw [if_neg (by rw [a3.2.1]; exact a3.1)]
  simp only [w_lp, a1, hst]
/-- the sign at the place, and where the loop goes on with it -/
theorem EV_sign {m : Hp} (H : EV T c p e fe nm m t) : v_150 m = cs0 T t.1 ∧ g_150 m = true := m_150 H.1.1 H.2.1 H.2.2.1
theorem EV_part {m : Hp} (H : EV T c p e fe nm m t) : l_207_8 1 m = q_207_28 m 1 := by
  unfold l_207_8
  rw [if_pos H.2.2.2.2.2.2.2.2.2.1, if_neg (by decide)]
theorem EV_rest {m : Hp} {y : Int32} (H : EV T c p e fe nm m t) (hc : cat T t.1 = y) (h1 : ¬ y = -1) (h2 : ¬ y = 59) : l_207_8 0 m = q_207_28 m 0 := by
  have hlt : t.1 < T.length := by
    unfold cat at hc
    by_cases h : t.1 < T.length
    · exact h
    · rw [if_neg h] at hc; exact absurd hc.symm h1
  have hT := H.1.1.1
  have e1 : m 1127 (m 1076 67).toNatClampNeg = y := by
    rw [H.2.1, u_cl (by omega), H.1.1.2.2 t.1 hlt, ← hc]; unfold cat; rw [if_pos hlt]
  have e2 : m 1076 67 < m 1076 66 := by
    rw [H.2.1, H.1.1.2.1]; exact (u_lt (by omega) (by omega)).mpr hlt
  unfold l_207_8
  rw [if_pos H.2.2.2.2.2.2.2.2.2.1, if_pos rfl, if_pos e2, e1, if_neg h2, H.2.1, u_ix (by omega) (by decide)]
  simp only [w_gd, ite_self]
/-- + - * : what binds as strongly is applied, the sign is put -/
theorem st_op {a : Nat} {Q O : List (Int32 × Nat)} {V : List VL} {y : Int32} {r : Int32 × PM} (hy : y = 43 ∨ y = 45 ∨ y = 42) (hc : cat T a = y) (hQ : opsN (v_201 y) Q) (hO : low (v_201 y) O) (hx : fls p Q (e, V, d) = some r) : (r.1 = 0 → gR T c p e fe nm (a, Q ++ O, V, d, false) (a + 1, (y, 1) :: O, r.2.2.1, r.2.2.2, true)) ∧ (¬ r.1 = 0 → gX T c p e fe nm (a, Q ++ O, V, d, false) r.1 r.2.2.2) := by
  have n1 : ¬ y = -1 := by rcases hy with rfl | rfl | rfl <;> decide
  have n0 : ¬ y = 0 := by rcases hy with rfl | rfl | rfl <;> decide
  have n59 : ¬ y = 59 := by rcases hy with rfl | rfl | rfl <;> decide
  have hlt : a < T.length := cat_eq hc n1
  have step : ∀ m, EV T c p e fe nm m (a, Q ++ O, V, d, false) → l_207_8 0 m = q_207_65 m y := by
    intro m H
    rw [EV_rest (t := (a, Q ++ O, V, d, false)) H hc n1 n59]
    obtain ⟨s1, s2⟩ := EV_sign H
    have s3 : v_150 m = y := s1.trans ((cs_eq n0 n1).mpr hc)
    unfold q_207_28
    rw [s2, s3, if_pos rfl]
    simp only [w_gd]
    rcases hy with rfl | rfl | rfl
    · rw [if_neg (by decide), if_pos rfl]
    · rw [if_neg (by decide), if_neg (by decide), if_pos rfl]
    · rw [if_neg (by decide), if_neg (by decide), if_neg (by decide), if_pos rfl]
  refine ⟨fun h0 => gR_1 (Nat.lt_succ_self a) (fun m H => ?_), fun h0 => gX_1 (fun m H => ?_)⟩
  · obtain ⟨m1, a1, a2, a3, a4, -⟩ := m_202 H hQ hO hx
    have H1 := a4 h0
    have hT := H.1.1.1
    have hO1 : O.length ≤ a := H1.2.2.2.2.1
    obtain ⟨m2, b1, b2, b3, b4⟩ := m_203 (x := y) H1.2.2.2.1 (by show O.length < 80; omega) H1.2.2.2.2.2.1
    have f := evf_opf (c := c) b4
    have e67 : m2 1076 67 = Int32.ofNat a := (b4.2 67 (by decide)).trans H1.2.1
    refine ⟨w_up m2 1076 67 (Int32.ofNat (a + 1)), ?_, ?_, evf_trans a2 (evf_trans f evf_67)⟩
    · show l_207_8 0 m = _
      rw [step m H]
      unfold q_207_65
      rw [a1]
      simp only [Option.bind_some]
      rw [b1]
      simp only [Option.bind_some, w_let, e67, u_S]
      rfl
    · refine ⟨EVB_evf H1.1 (evf_trans f evf_67), w_up_at, hlt, mk_up _ b2 (Or.inl rfl), ?_, ?_, ?_, H1.2.2.2.2.2.2.2.1, ?_, ?_, ?_, ?_⟩
      · show O.length + 1 ≤ a + 1; omega
      · rw [w_up_b (by decide)]; exact b3
      · exact mvs_b H1.2.2.2.2.2.2.1 (fun b _ => by rw [w_up_q (by decide), b4.1 1130 (by decide)])
      · rw [w_up_b (by decide), b4.2 72 (by decide)]; exact H1.2.2.2.2.2.2.2.2.1
      · rw [w_up_b (by decide), b4.2 75 (by decide)]; exact H1.2.2.2.2.2.2.2.2.2.1
      · rw [w_up_b (by decide), b4.2 76 (by decide)]; exact H1.2.2.2.2.2.2.2.2.2.2.1
      · refine dm_fr H1.2.2.2.2.2.2.2.2.2.2.2 (funext fun b => ?_) (funext fun b => ?_) (fun b h1 h2 _ _ _ => ?_)
        · rw [w_up_q (by decide), b4.1 1095 (by decide)]
        · rw [w_up_q (by decide), b4.1 1099 (by decide)]
        · rw [w_up_b h1, b4.2 b h2]
  · obtain ⟨m1, a1, a2, a3, -, a5, k, k1, k2⟩ := m_202 H hQ hO hx
    obtain ⟨b1, b2, b3, b4⟩ := a5 h0
    have hT := H.1.1.1
    have e203 : p_203 m1 y = some (w_up (w_up (w_up m1 1128 k y) 1129 k 1) 1076 70 (Int32.ofNat (k + 1))) := by
      unfold p_203
      simp (disch := omega) only [w_let, k2, u_ix, u_cl, w_gd, w_up_q, u_S]
    generalize hg : w_up (w_up (w_up m1 1128 k y) 1129 k 1) 1076 70 (Int32.ofNat (k + 1)) = g at e203
    have g1 : ∀ q, q ≠ 1128 → q ≠ 1129 → q ≠ 1076 → g q = m1 q := fun q n1 n2 n3 => by
      subst hg; exact funext fun b => by rw [w_up_q n3, w_up_q n2, w_up_q n1]
    have g2 : ∀ b, b ≠ 70 → g 1076 b = m1 1076 b := fun b hb => by
      subst hg; rw [w_up_b hb, w_up_q (by decide), w_up_q (by decide)]
    refine ⟨1, w_up g 1076 67 (g 1076 67 + 1), ?_, ?_, b1, ?_, ?_, ?_⟩
    · show l_207_8 0 m = _
      rw [step m H]
      unfold q_207_65
      rw [a1]
      simp only [Option.bind_some]
      rw [e203]
      rfl
    · refine evf_trans a2 (evf_trans ⟨fun q hq => g1 q ?_ ?_ ?_, fun b _ h2 _ _ _ _ _ => g2 b h2, fun b _ => by rw [g1 1095 (by decide) (by decide) (by decide)]⟩ evf_67)
      · exact fun h => hq (by unfold evfP; omega)
      · exact fun h => hq (by unfold evfP; omega)
      · exact fun h => hq (by unfold evfP; omega)
    · rw [w_up_b (by decide), g2 75 (by decide)]; exact b2
    · rw [w_up_b (by decide), g2 76 (by decide)]; exact b3
    · refine dm_fr b4 (funext fun b => ?_) (funext fun b => ?_) (fun b h1 h2 _ _ _ => ?_)
      · rw [w_up_q (by decide), g1 1095 (by decide) (by decide) (by decide)]
      · rw [w_up_q (by decide), g1 1099 (by decide) (by decide) (by decide)]
      · rw [w_up_b h1, g2 b h2]
/-- . takes an item -/
theorem st_item {a dg : Nat} {O : List (Int32 × Nat)} {V : List VL} {r : Int32 × PM} (hc : cat T a = 46) (hd : cat T (a + 1) = Int32.ofNat (48 + dg)) (h10 : dg < 10) (hx : xs p 7 (Int32.ofNat dg) (e, V, d) = some r) : (r.1 = 0 → gR T c p e fe nm (a, O, V, d, false) (a + 2, O, r.2.2.1, r.2.2.2, false)) ∧ (¬ r.1 = 0 → gX T c p e fe nm (a, O, V, d, false) r.1 r.2.2.2) := by
  have hlt : a + 1 < T.length := cat_ne (by rw [hd]; exact u_m1 (by omega))
  have hs : r.2.2.2 = d ∧ r.2.2.1.length ≤ V.length := by
    have hx2 : (match ((e, V, d) : PM).2.1 with
      | .inr l :: st => if (Int32.ofNat dg).toNatClampNeg < l.length then some (0, e, .inl (l.getD (Int32.ofNat dg).toNatClampNeg 0) :: st, d) else some (3, e, V, d)
      | .inl _ :: _ => some (2, e, V, d)
      | [] => none : Option (Int32 × PM)) = some r := hx
    cases V with
    | nil =>
      have hx3 : (none : Option (Int32 × PM)) = some r := hx2
      cases hx3
    | cons v st =>
      cases v with
      | inl n =>
        have hx3 : some ((2 : Int32), e, .inl n :: st, d) = some r := hx2
        cases hx3; exact ⟨rfl, Nat.le_refl _⟩
      | inr l =>
        have hx3 : (if (Int32.ofNat dg).toNatClampNeg < l.length then some ((0 : Int32), e, .inl (l.getD (Int32.ofNat dg).toNatClampNeg 0) :: st, d) else some (3, e, .inr l :: st, d) : Option (Int32 × PM)) = some r := hx2
        split at hx3
        · cases hx3; exact ⟨rfl, Nat.le_refl _⟩
        · cases hx3; exact ⟨rfl, Nat.le_refl _⟩
  have key : ∀ m, EV T c p e fe nm m (a, O, V, d, false) → ∃ m', l_207_8 0 m = some (.inl (0, m')) ∧ m' 1076 67 = Int32.ofNat (a + 2) ∧ evf c m m' ∧ mk m' O ∧ dm m' c p d ∧ m' 1076 70 = Int32.ofNat O.length ∧ (r.1 = 0 → mvs m' r.2.2.1 ∧ m' 1076 72 = Int32.ofNat r.2.2.1.length ∧ m' 1076 75 = 0 ∧ m' 1076 76 < 0) ∧ (¬ r.1 = 0 → m' 1076 75 = r.1 ∧ m' 1076 76 = m 1076 80) := by
    intro m H
    have hT := H.1.1.1
    have hdg : m 1127 (a + 1) = Int32.ofNat (48 + dg) := by
      rw [H.1.1.2.2 (a + 1) hlt, ← hd]; unfold cat; rw [if_pos hlt]
    obtain ⟨h1, h2, h3, h4, h5, h6, h7, h8, h9, h10', h11, h12⟩ := H
    obtain ⟨m', a1, a2, a3, a4, a5, a6⟩ := m_205 (p := p) (e := e) (d := d) (q := a) (by omega) h2 hdg h10 h7 h8 h9 h10' h11 hx
    refine ⟨m', ?_, a2, ?_, mk_fr h4 (a3 _ (by decide)) (a3 _ (by decide)), dm_fr h12 (a3 _ (by decide)) (a3 _ (by decide)) (fun b h1 _ _ h4 h5 => a4 b h1 h4 h5), ?_, a5, a6⟩
    · rw [EV_rest (t := (a, O, V, d, false)) ⟨h1, h2, h3, h4, h5, h6, h7, h8, h9, h10', h11, h12⟩ hc (by decide) (by decide)]
      obtain ⟨s1, s2⟩ := m_150 h1.1 h2 h3
      have s3 : v_150 m = 46 := s1.trans ((cs_eq (by decide) (by decide)).mpr hc)
      unfold q_207_28
      rw [s2, s3, if_pos rfl, if_pos rfl]
      simp only [w_gd]
      rw [a1]; rfl
    · exact ⟨w_fr_mono a3 (fun q hq => by unfold evfP; omega), fun b n1 _ _ n4 n5 _ _ => a4 b n1 n4 n5, fun b _ => by rw [a3 1095 (by decide)]⟩
    · rw [a4 70 (by decide) (by decide) (by decide)]; exact h6
  refine ⟨fun h0 => gR_1 (show a < a + 2 by omega) (fun m H => ?_), fun h0 => gX_1 (fun m H => ?_)⟩
  · obtain ⟨m', a1, a2, a3, a4, a5, a6, a7, -⟩ := key m H
    obtain ⟨b1, b2, b3, b4⟩ := a7 h0
    refine ⟨m', a1, ⟨EVB_evf H.1 a3, a2, hlt, a4, ?_, a6, b1, Nat.le_trans hs.2 H.2.2.2.2.2.2.2.1, b2, b3, b4, by rw [hs.1]; exact a5⟩, a3⟩
    have := H.2.2.2.2.1
    show O.length ≤ a + 2
    have : O.length ≤ a := this
    omega
  · obtain ⟨m', a1, a2, a3, a4, a5, a6, -, a7⟩ := key m H
    obtain ⟨b1, b2⟩ := a7 h0
    exact ⟨0, m', a1, a3, h0, b1, b2, by rw [hs.1]; exact a5⟩
/-- the expression ends: what is pending is applied -/
theorem st_end {a : Nat} {Q : List (Int32 × Nat)} {V : List VL} {r : Int32 × PM} {m : Hp} {K : Nat} (hc : ¬ a < T.length ∨ cat T a = 59) (hQ : opsN 1 Q) (hx : fls p Q (e, V, d) = some r) (H : EV T c p e fe nm m (a, Q, V, d, false)) (hK : 43 ≤ K + a) : ∃ m', w_lp (fun (s : Int32 × Hp) => l_207_8 s.1 s.2) K (0, m) = some m' ∧ evf c m m' ∧ m' 1076 67 = Int32.ofNat a ∧ (r.1 = 0 → EV T c p e fe nm m' (a, [], r.2.2.1, r.2.2.2, false)) ∧ (¬ r.1 = 0 → EX c p m m' r.1 r.2.2.2) := by
  have hT := H.1.1.1
  have ha : a ≤ T.length := H.2.2.1
  have stop : ∀ m V d, EV T c p e fe nm m (a, [], V, d, false) → l_207_8 0 m = some (.inr m) := by
    intro m V d H
    have h70 : m 1076 70 = 0 := H.2.2.2.2.2.1
    unfold l_207_8
    rw [if_pos H.2.2.2.2.2.2.2.2.2.1, if_pos rfl, h70, if_pos (by decide)]
    by_cases hlt : a < T.length
    · have hc2 : cat T a = 59 := hc.elim (fun h => absurd hlt h) id
      have e2 : m 1076 67 < m 1076 66 := by
        rw [H.2.1, H.1.1.2.1]; exact (u_lt (by omega) (by omega)).mpr hlt
      have e1 : m 1127 (m 1076 67).toNatClampNeg = 59 := by
        rw [H.2.1, u_cl (by show a < _; omega), H.1.1.2.2 a hlt, ← hc2]; unfold cat; rw [if_pos hlt]
      rw [if_pos e2, e1, if_pos rfl, H.2.1, u_ix (by show a < 40; omega) (by decide)]
      rfl
    · have e2 : ¬ m 1076 67 < m 1076 66 := by
        rw [H.2.1, H.1.1.2.1]; exact fun h => hlt ((u_lt (by show a < _; omega) (by omega)).mp h)
      rw [if_neg e2]
  obtain ⟨K, rfl⟩ : ∃ k, K = k + 2 := ⟨K - 2, by omega⟩
  cases Q with
  | nil =>
    cases hx
    refine ⟨m, ?_, evf_refl, H.2.1, fun _ => H, fun h => absurd rfl h⟩
    simp only [w_lp, stop m V d H]
  | cons x Q =>
    obtain ⟨m1, a1, a2, a3, a4, a5, -⟩ := m_202 (Q := x :: Q) (O := []) (b := false) (by rw [List.append_nil]; exact H) hQ (fun _ _ h => by cases h) hx
    have hst : l_207_8 0 m = some (.inl (0, m1)) := by
      have h70 : m 1076 70 = Int32.ofNat (Q.length + 1) := H.2.2.2.2.2.1
      have hl : Q.length + 1 ≤ a := H.2.2.2.2.1
      have n70 : ¬ Int32.ofNat (Q.length + 1) ≤ 0 := fun e => by
        have := (u_leL (a := Q.length + 1) (n := 0) (by omega) (by decide)).mp e
        omega
      obtain ⟨s1, s2⟩ := EV_sign H
      have s3 : v_150 m = cs0 T a := s1
      have s4 : cs0 T a = 59 ∨ cs0 T a = 0 := by
        unfold cs0
        by_cases hlt : a < T.length
        · rw [if_pos hlt]; left
          rcases hc with h | h
          · exact absurd hlt h
          · unfold cat at h; rw [if_pos hlt] at h; exact h
        · rw [if_neg hlt]; exact Or.inr rfl
      unfold l_207_8
      rw [if_pos H.2.2.2.2.2.2.2.2.2.1, if_pos rfl, h70, if_neg n70]
      unfold q_207_28
      rw [s2, s3]
      simp only [w_gd, if_true]
      rcases s4 with h | h
      · rw [h, if_neg (by decide), if_neg (by decide), if_neg (by decide), if_neg (by decide), if_neg (by decide), if_neg (by decide), if_neg (by decide), a1]; rfl
      · rw [h, if_neg (by decide), if_neg (by decide), if_neg (by decide), if_neg (by decide), if_neg (by decide), if_neg (by decide), if_neg (by decide), a1]; rfl
    by_cases h0 : r.1 = 0
    · have H1 := a4 h0
      refine ⟨m1, ?_, a2, a3.trans H.2.1, a4, a5⟩
      simp only [w_lp, hst, stop m1 _ _ H1]
    · have H1 := a5 h0
      refine ⟨m1, ?_, a2, a3.trans H.2.1, a4, a5⟩
      have hst2 : l_207_8 0 m1 = some (.inr m1) := by
        unfold l_207_8
        rw [if_neg (by rw [H1.2.1]; exact H1.1)]
      simp only [w_lp, hst, hst2]
end S88b
