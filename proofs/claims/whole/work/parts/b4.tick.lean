/-! ===== tick, the call ===== -/
section SB4
variable {h h' h1 g m m' m1 p : Hp} {n nw k B b c f K : Nat} {lang us x y z x0 x1 x2 : Int32} {bd : Nat → Nat → Bool} {A S S' : Nat → Bool}
/-- those that were turned show that: the class -/
theorem c_94a (hw : h 4 7 = Int32.ofNat nw) (h4 : nw ≤ 4) : ok (w_lp (fun (s : Int32 × Hp) => l_94_5 s.1 s.2) w_N (0, h)) (fun g => w_fr (fun z => z = 8) h g ∧ ∀ w, w < nw → g 8 w = if bt (h 4 6) w = true then h 9 w else h 8 w) := by
  refine ok_for (fun i s => s.1 = Int32.ofNat i ∧ w_fr (fun z => z = 8) h s.2 ∧ (∀ w, w < i → s.2 8 w = if bt (h 4 6) w = true then h 9 w else h 8 w) ∧ ∀ w, i ≤ w → s.2 8 w = h 8 w) nw ⟨rfl, w_fr_refl _ _, fun w hw => absurd hw (Nat.not_lt_zero _), fun _ _ => rfl⟩ (by unfold w_N; omega) ?_ ?_
  · rintro i ⟨j, q⟩ hi ⟨rfl, F, D, E⟩
    have F' : ∀ z, z ≠ 8 → q z = h z := F
    have lt1 : Int32.ofNat i < Int32.ofNat nw := (u_lt (by omega) (by omega)).mpr hi
    have E' : ∀ w, i ≤ w → q 8 w = h 8 w := E
    have D' : ∀ w, w < i → q 8 w = if bt (h 4 6) w = true then h 9 w else h 8 w := D
    show ok (l_94_5 (Int32.ofNat i) q) _
    unfold l_94_5
    rw [F' 4 (by decide), hw, if_pos lt1, u_has (by omega)]
    by_cases c : bt (h 4 6) i = true
    · rw [if_pos c, if_neg no10]
      simp (disch := omega) only [u_ix, u_cl, w_gd, w_let]
      rw [F' 9 (by decide)]
      refine ok_some ⟨u_S i, fun z hz => ?_, fun w hw2 => ?_, fun w hw2 => ?_⟩
      · funext o
        show w_up q 8 i (h 9 i) z o = h z o
        rw [w_up_q hz]; exact congrFun (F z hz) o
      · show w_up q 8 i (h 9 i) 8 w = _
        by_cases e : w = i
        · subst e; rw [w_up_at, if_pos c]
        · rw [w_up_b e]; exact D' w (by omega)
      · show w_up q 8 i (h 9 i) 8 w = _
        rw [w_up_b (by omega)]; exact E' w (by omega)
    · rw [if_neg c, if_pos rfl]
      refine ok_some ⟨u_S i, F, fun w hw2 => ?_, fun w hw2 => E' w (by omega)⟩
      by_cases e : w = i
      · subst e; rw [if_neg c]; exact E' w (Nat.le_refl _)
      · exact D' w (by omega)
  · rintro ⟨j, q⟩ ⟨rfl, F, D, E⟩
    have F' : ∀ z, z ≠ 8 → q z = h z := F
    show ok (l_94_5 (Int32.ofNat nw) q) _
    unfold l_94_5
    rw [F' 4 (by decide), hw, if_neg (fun hh => Nat.lt_irrefl _ ((u_lt (by omega) (by omega)).mp hh))]
    exact ok_some ⟨F, D⟩
/-- the model -/
theorem m_177a (hw : m 1076 48 = Int32.ofNat nw) (h4 : nw ≤ 4) (h01 : ∀ w, w < 4 → m 1117 w = 0 ∨ m 1117 w = 1) : ok (w_lp (fun (s : Int32 × Hp) => l_177_11 s.1 s.2) w_N (0, m)) (fun g => w_fr (fun q => q = 1115 ∨ q = 1119) m g ∧ ∀ w, w < nw → g 1115 w = (if m 1117 w = 0 then m 1115 w else m 1116 w) ∧ g 1119 w = m 1117 w) := by
  refine ok_for (fun i s => s.1 = Int32.ofNat i ∧ w_fr (fun q => q = 1115 ∨ q = 1119) m s.2 ∧ (∀ w, w < i → s.2 1115 w = (if m 1117 w = 0 then m 1115 w else m 1116 w) ∧ s.2 1119 w = m 1117 w) ∧ ∀ w, i ≤ w → s.2 1115 w = m 1115 w) nw ⟨rfl, w_fr_refl _ _, fun w hw => absurd hw (Nat.not_lt_zero _), fun _ _ => rfl⟩ (by unfold w_N; omega) ?_ ?_
  · rintro i ⟨j, q⟩ hi ⟨rfl, F, D, E⟩
    have F' : ∀ z, z ≠ 1115 → z ≠ 1119 → q z = m z := fun z a b => F z (by rintro (h | h); exact a h; exact b h)
    have lt1 : Int32.ofNat i < Int32.ofNat nw := (u_lt (by omega) (by omega)).mpr hi
    have E' : ∀ w, i ≤ w → q 1115 w = m 1115 w := E
    have D' : ∀ w, w < i → q 1115 w = (if m 1117 w = 0 then m 1115 w else m 1116 w) ∧ q 1119 w = m 1117 w := D
    have nar : j_nar 52 (m 1117 i) = m 1117 i := by rcases h01 i (by omega) with h | h <;> rw [h] <;> rfl
    show ok (l_177_11 (Int32.ofNat i) q) _
    unfold l_177_11
    rw [F' 1076 (by decide) (by decide), hw, if_pos lt1]
    simp (disch := omega) only [u_ix, u_cl, w_gd, w_let, w_up_q]
    rw [F' 1117 (by decide) (by decide), F' 1116 (by decide) (by decide), nar, E' i (Nat.le_refl _), ite_self]
    refine ok_some ⟨u_S i, fun z hz => ?_, fun w hw2 => ?_, fun w hw2 => ?_⟩
    · funext o
      show (w_up (w_up q 1119 i (m 1117 i)) 1115 i (if m 1117 i = 0 then m 1115 i else m 1116 i)) z o = m z o
      rw [w_up_q (fun e => hz (Or.inl e)), w_up_q (fun e => hz (Or.inr e))]; exact congrFun (F z hz) o
    · show (w_up (w_up q 1119 i (m 1117 i)) 1115 i (if m 1117 i = 0 then m 1115 i else m 1116 i)) 1115 w = (if m 1117 w = 0 then m 1115 w else m 1116 w) ∧ (w_up (w_up q 1119 i (m 1117 i)) 1115 i (if m 1117 i = 0 then m 1115 i else m 1116 i)) 1119 w = m 1117 w
      by_cases e : w = i
      · subst e; rw [w_up_at, w_up_q (by decide), w_up_at]; exact ⟨rfl, rfl⟩
      · rw [w_up_b e, w_up_q (by decide), w_up_q (by decide), w_up_b e]; exact D' w (by omega)
    · show (w_up (w_up q 1119 i (m 1117 i)) 1115 i (if m 1117 i = 0 then m 1115 i else m 1116 i)) 1115 w = m 1115 w
      rw [w_up_b (by omega), w_up_q (by decide)]; exact E' w (by omega)
  · rintro ⟨j, q⟩ ⟨rfl, F, D, E⟩
    have F' : ∀ z, z ≠ 1115 → z ≠ 1119 → q z = m z := fun z a b => F z (by rintro (h | h); exact a h; exact b h)
    show ok (l_177_11 (Int32.ofNat nw) q) _
    unfold l_177_11
    rw [F' 1076 (by decide) (by decide), hw, if_neg (fun hh => Nat.lt_irrefl _ ((u_lt (by omega) (by omega)).mp hh))]
    exact ok_some ⟨F, D⟩
/-- one widget after the other -/
theorem tk_loop (G : WG h m nw) (h4 : nw ≤ 4) (hw : h 4 7 = Int32.ofNat nw) (hm : m 1076 48 = Int32.ofNat nw) : ∀ (d i : Nat) (x1 : Int32) (g p : Hp) (N M : Nat), i + d = nw → d + 1 ≤ N → d + 1 ≤ M → w_fr (fun z => z = 8) h g → w_fr (fun q => q = 1115 ∨ q = 1117 ∨ q = 1119) m p → (∀ w, w < nw → g 8 w = p 1115 w) → (∀ w, w < nw → bt x1 w = !decide (p 1119 w = 0)) → (∀ w, i ≤ w → p 1117 w = m 1117 w) → (∀ w, w < i → p 1117 w = 0) → (∀ w, w < nw → bt (h 4 6) w = true → bt x1 w = true) → ∃ g' p', w_lp (fun (s : Int32 × Int32 × Hp) => l_94_26 s.1 s.2.1 s.2.2) N (x1, Int32.ofNat i, g) = some g' ∧ w_lp (fun (s : Int32 × Hp) => l_177_45 s.1 s.2) M (Int32.ofNat i, p) = some p' ∧ w_fr (fun z => z = 8) h g' ∧ w_fr (fun q => q = 1115 ∨ q = 1117 ∨ q = 1119) m p' ∧ (∀ w, w < nw → g' 8 w = p' 1115 w) ∧ (∀ w, w < nw → p' 1117 w = 0) ∧ ∀ w, nw ≤ w → p' 1117 w = m 1117 w := by
  intro d
  induction d with
  | zero =>
    intro i x1 g p N M hi hN hM F1 F2 S1 S2 S3 S4 S5
    obtain ⟨N, rfl⟩ : ∃ a, N = a + 1 := ⟨N - 1, by omega⟩
    obtain ⟨M, rfl⟩ : ∃ a, M = a + 1 := ⟨M - 1, by omega⟩
    have e : i = nw := by omega
    subst e
    have nlt : ¬ Int32.ofNat i < Int32.ofNat i := fun hh => Nat.lt_irrefl _ ((u_lt (by omega) (by omega)).mp hh)
    refine ⟨g, p, lp_r (t := (x1, Int32.ofNat i, g)) ?_, lp_r (t := (Int32.ofNat i, p)) ?_, F1, F2, S1, S4, S3⟩
    · show l_94_26 x1 (Int32.ofNat i) g = _
      unfold l_94_26
      rw [F1 4 (by decide), hw, if_neg nlt]
    · show l_177_45 (Int32.ofNat i) p = _
      unfold l_177_45
      rw [F2 1076 (by decide), hm, if_neg nlt]
  | succ d ih =>
    intro i x1 g p N M hi hN hM F1 F2 S1 S2 S3 S4 S5
    obtain ⟨N, rfl⟩ : ∃ a, N = a + 1 := ⟨N - 1, by omega⟩
    obtain ⟨M, rfl⟩ : ∃ a, M = a + 1 := ⟨M - 1, by omega⟩
    have hin : i < nw := by omega
    obtain ⟨g1, g2, g3, g4⟩ := G
    have lt1 : Int32.ofNat i < Int32.ofNat nw := (u_lt (by omega) (by omega)).mpr hin
    have c4 : g 4 = h 4 := F1 4 (by decide)
    have n52 : j_nar 52 0 = 0 := rfl
    have t1 : bt (h 4 6) i = !decide (p 1117 i = 0) := by rw [S3 i (Nat.le_refl _)]; exact (g3 i (by omega)).1
    have cls : l_94_26 x1 (Int32.ofNat i) g = if bt (h 4 6) i = true then (p_95 g (Int32.ofNat i) x1).bind (fun vz9 => some (.inl ((x1 ||| vz9.1), (Int32.ofNat i + 1), vz9.2))) else some (.inl (x1, (Int32.ofNat i + 1), g)) := by
      unfold l_94_26
      rw [c4, hw, if_pos lt1, u_has (by omega)]
      by_cases c : bt (h 4 6) i = true
      · rw [if_pos c, if_neg no10, if_pos c]
      · rw [if_neg c, if_pos rfl, if_neg c]
    have mdl : l_177_45 (Int32.ofNat i) p = if p 1117 i = 0 then some (.inl (Int32.ofNat (i + 1), w_up p 1117 i 0)) else (p_176 p (Int32.ofNat i)).bind (fun vz20 => some (.inl (Int32.ofNat (i + 1), w_up vz20 1117 i 0))) := by
      unfold l_177_45 q_177_57
      rw [F2 1076 (by decide), hm, if_pos lt1]
      simp (disch := omega) only [u_ix, u_cl, w_gd, w_let, n52, u_S]
    by_cases c : bt (h 4 6) i = true
    · have pn : ¬ p 1117 i = 0 := fun e => by rw [t1, decide_eq_true e] at c; cases c
      rw [if_pos c] at cls
      rw [if_neg pn] at mdl
      have GG : WG h m nw := ⟨g1, g2, g3, g4⟩
      have c6 : g 6 = h 6 := F1 6 (by decide)
      have c7 : g 7 = h 7 := F1 7 (by decide)
      have c9 : g 9 = h 9 := F1 9 (by decide)
      have c10 : g 10 = h 10 := F1 10 (by decide)
      have d13 : p 1113 = m 1113 := F2 1113 (by decide)
      have d14 : p 1114 = m 1114 := F2 1114 (by decide)
      have d16 : p 1116 = m 1116 := F2 1116 (by decide)
      have d18 : p 1118 = m 1118 := F2 1118 (by decide)
      have e91 : ∀ w z, v_91 g w z = v_91 h w z := fun w z => by unfold v_91 v_88; rw [c4, c6, c7]
      have eg91 : ∀ w z, g_91 g w z = g_91 h w z := fun w z => by unfold g_91 v_88; rw [c4]
      have e175 : ∀ w z, v_175 p w z = v_175 m w z := fun w z => by unfold v_175; rw [d13, d14]
      have eg175 : ∀ w z, g_175 p w z = g_175 m w z := fun w z => by unfold g_175; rw [d13, d14]
      have e9 : h 9 i = m 1116 i := (g2 i c).2
      obtain ⟨R, g', a1, a2, a3, a4, a5⟩ := c_95 (h := g) (nw := nw) (f := i) (x2 := x1) (bd := fun v w => !decide (m 1118 (4 * v + w) = 0)) (by rw [c4]; exact hw) h4 hin (fun v w hv hw2 => by rw [c10, (g4 w v (by omega) (by omega)).1, (g4 w v (by omega) (by omega)).2.1]) (S5 i hin c) (fun w hw2 => by rw [eg91]; exact (held_eq GG h4 hw hw2).2.1)
      obtain ⟨R', p', b1, b2, b3, b4, b5, b6⟩ := m_176 (m := p) (nw := nw) (f := i) (A := bt x1) (bd := fun v w => !decide (m 1118 (4 * v + w) = 0)) h4 hin (fun v w _ _ => by rw [d18]) (fun v w hv hw2 hw3 => by rw [d18, (g4 v w (by omega) hw2).2.1]; exact (g4 w v hw2 (by omega)).2.2 hw3) (S5 i hin c) S2 (fun w hw2 => by rw [eg175]; exact (held_eq GG h4 hw hw2).2.2.1)
      have same := rch_uniq a3 a2 b3 b2
      obtain ⟨gg, pp, z1, z2, z3, z4, z5, z6, z7⟩ := ih (i + 1) (x1 ||| R) g' (w_up p' 1117 i 0) N M (by omega) (by omega) (by omega) (w_fr_trans F1 a4) (fun q hq => by
          funext o
          rw [w_up_q (fun e => hq (Or.inr (Or.inl e))), b4 q (fun hh => hq (by omega))]; exact congrFun (F2 q hq) o) (fun w hw2 => by
          rw [w_up_q (by decide), a5 w, b5 w hw2, same w, e91, e175, c9, d16, e9, (held_eq GG h4 hw hw2).1, S1 w hw2]) (fun w hw2 => by
          rw [w_up_q (by decide), bt_or, same w, b6 w hw2]
          cases bt x1 w <;> cases bt R' w <;> rfl) (fun w hw2 => by
          rw [w_up_b (by omega), b4 1117 (by decide)]; exact S3 w (by omega)) (fun w hw2 => by
          by_cases e : w = i
          · subst e; rw [w_up_at]
          · rw [w_up_b e, b4 1117 (by decide)]; exact S4 w (by omega)) (fun w hw2 hb => by rw [bt_or, S5 w hw2 hb]; rfl)
      refine ⟨gg, pp, ?_, ?_, z3, z4, z5, z6, z7⟩
      · refine (lp_l (t := (x1, Int32.ofNat i, g)) (t' := (x1 ||| R, Int32.ofNat (i + 1), g')) ?_).trans z1
        show l_94_26 x1 (Int32.ofNat i) g = _
        rw [cls, a1]
        simp only [Option.bind_some]
        rw [u_S]
      · refine (lp_l (t := (Int32.ofNat i, p)) (t' := (Int32.ofNat (i + 1), w_up p' 1117 i 0)) ?_).trans z2
        show l_177_45 (Int32.ofNat i) p = _
        rw [mdl, b1]
        rfl
    · have pn : p 1117 i = 0 := by
        by_cases e : p 1117 i = 0
        · exact e
        · rw [decide_eq_false e] at t1; exact absurd t1 c
      rw [if_neg c] at cls
      rw [if_pos pn] at mdl
      have eup_ : w_up p 1117 i 0 = p := by
        have := w_up_self (h := p) (q := 1117) (b := i)
        rw [pn] at this; exact this
      rw [eup_] at mdl
      obtain ⟨gg, pp, z1, z2, z3, z4, z5, z6, z7⟩ := ih (i + 1) x1 g p N M (by omega) (by omega) (by omega) F1 F2 S1 S2 (fun w hw2 => S3 w (by omega)) (fun w hw2 => by
          by_cases e : w = i
          · subst e; exact pn
          · exact S4 w (by omega)) S5
      refine ⟨gg, pp, ?_, ?_, z3, z4, z5, z6, z7⟩
      · refine (lp_l (t := (x1, Int32.ofNat i, g)) (t' := (x1, Int32.ofNat (i + 1), g)) ?_).trans z1
        show l_94_26 x1 (Int32.ofNat i) g = _
        rw [cls, u_S]
      · refine (lp_l (t := (Int32.ofNat i, p)) (t' := (Int32.ofNat (i + 1), p)) ?_).trans z2
        show l_177_45 (Int32.ofNat i) p = _
        rw [mdl]
/-- what was turned is shown, and what is bound to it -/
theorem tick_both (G : WG h m nw) (h4 : nw ≤ 4) (hw : h 4 7 = Int32.ofNat nw) (hm : m 1076 48 = Int32.ofNat nw) (hs : ∀ w, w < nw → h 8 w = m 1115 w) : ∃ h' m', p_94 h = some h' ∧ ((w_lp (fun (s : Int32 × Hp) => l_177_11 s.1 s.2) w_N (0, m)).bind fun ez14 => w_lp (fun (s : Int32 × Hp) => l_177_45 s.1 s.2) w_N (0, ez14)) = some m' ∧ w_fr (fun z => z = 8 ∨ z = 4) h h' ∧ (∀ b, b ≠ 6 → h' 4 b = h 4 b) ∧ h' 4 6 = 0 ∧ w_fr (fun q => q = 1115 ∨ q = 1117 ∨ q = 1119) m m' ∧ (∀ w, w < nw → h' 8 w = m' 1115 w) ∧ ∀ w, w < 4 → m' 1117 w = 0 := by
  obtain ⟨g, a1, a2, a3⟩ := c_94a hw h4
  obtain ⟨p, b1, b2, b3⟩ := m_177a hm h4 (fun w hw2 => (G.2.2.1 w hw2).2)
  have p17 : p 1117 = m 1117 := b2 1117 (by decide)
  obtain ⟨g', p', z1, z2, z3, z4, z5, z6, z7⟩ := tk_loop G h4 hw hm nw 0 (h 4 6) g p w_N w_N (by omega) (by unfold w_N; omega) (by unfold w_N; omega) a2 (w_fr_mono b2 (fun q hq => by omega)) (fun w hw2 => by
      rw [a3 w hw2, (b3 w hw2).1, (G.2.2.1 w (by omega)).1]
      by_cases e : m 1117 w = 0
      · rw [if_pos e, decide_eq_true e, if_neg (by decide)]; exact hs w hw2
      · rw [if_neg e, decide_eq_false e, if_pos (by decide)]
        exact (G.2.1 w (by rw [(G.2.2.1 w (by omega)).1, decide_eq_false e]; rfl)).2) (fun w hw2 => by rw [(b3 w hw2).2]; exact (G.2.2.1 w (by omega)).1) (fun w _ => by rw [p17]) (fun w hw2 => absurd hw2 (Nat.not_lt_zero _)) (fun w _ hh => hh)
  refine ⟨w_up g' 4 6 0, p', ?_, ?_, fun z hz => ?_, fun b hb => ?_, w_up_at, z4, fun w hw2 => ?_, fun w hw2 => ?_⟩
  · unfold p_94
    rw [a1]
    simp only [Option.bind_some]
    rw [show ((h 4 6, (0 : Int32), g) : Int32 × Int32 × Hp) = (h 4 6, Int32.ofNat 0, g) from rfl, z1]
    rfl
  · rw [b1]
    exact z2
  · funext o
    rw [w_up_q (fun e => hz (Or.inr e))]; exact congrFun (z3 z (fun e => hz (Or.inl e))) o
  · rw [w_up_b hb, z3 4 (by decide)]
  · rw [w_up_q (by decide)]; exact z5 w hw2
  · by_cases e : w < nw
    · exact z6 w e
    · rw [z7 w (by omega)]
      by_cases e0 : m 1117 w = 0
      · exact e0
      · exact absurd (G.2.1 w (by rw [(G.2.2.1 w hw2).1, decide_eq_false e0]; rfl)).1 e
/-- tick -/
theorem call_8 (H : CI b h m) (hb : b + 20 ≤ 1000000) : ∃ v h' m', p_105 h = some (v, h') ∧ p_177 m = some (v, m') ∧ CI (b + 20) h' m' ∧ EF h m h' m' := by
  obtain ⟨n, nw, k, hk, H⟩ := CI_up H hb
  have h4 := H.2.1.2.2.2.1
  generalize hh0 : w_up h 40 1 ((h 40 1) + 1) = h0
  generalize hm0 : w_up (w_up m 1076 79 0) 1076 32 ((w_up m 1076 79 0) 1076 32 + 1) = m0
  have h0q : ∀ z, z ≠ 40 → h0 z = h z := fun z a => by rw [← hh0]; funext o; rw [w_up_q a]
  have h0b : ∀ o, o ≠ 1 → h0 40 o = h 40 o := fun o a => by rw [← hh0, w_up_b a]
  have h01 : h0 40 1 = h 40 1 + 1 := by rw [← hh0, w_up_at]
  have m0q : ∀ q, q ≠ 1076 → m0 q = m q := fun q a => by rw [← hm0]; funext o; rw [w_up_q a, w_up_q a]
  have m0b : ∀ o, o ≠ 79 → o ≠ 32 → m0 1076 o = m 1076 o := fun o a d => by rw [← hm0, w_up_b d, w_up_b a]
  have m032 : m0 1076 32 = m 1076 32 + 1 := by rw [← hm0, w_up_at, w_up_b (by decide)]
  have m079 : m0 1076 79 = 0 := by rw [← hm0, w_up_b (by decide), w_up_at]
  have G0 : WG h0 m0 nw := WG_fr H.2.2.2.2.2.2.1 (by rw [h0q 4 (by decide)]) (fun z hz => h0q z (by omega)) (fun q hq => m0q q (by omega))
  obtain ⟨h1, m1, p1, p2, f1, f2, f3, f4, f5, f6⟩ := tick_both G0 h4 (by rw [h0q 4 (by decide)]; exact H.2.1.2.2.1) (by rw [m0b 48 (by decide) (by decide)]; exact H.2.2.1.2.2.2.1) (fun w hw => by rw [h0q 8 (by decide), m0q 1115 (by decide)]; exact H.2.2.2.1.1 w hw)
  have h1q : ∀ z, z ≠ 40 → z ≠ 8 → z ≠ 4 → h1 z = h z := fun z a d e => by rw [f1 z (by omega), h0q z a]
  have m1q : ∀ q, q ≠ 1076 → q ≠ 1115 → q ≠ 1117 → q ≠ 1119 → m1 q = m q := fun q a d e f => by rw [f4 q (by omega), m0q q a]
  have m176 : m1 1076 = m0 1076 := f4 1076 (by decide)
  have h140 : h1 40 = h0 40 := f1 40 (by decide)
  generalize hh2 : w_up h1 0 17 0 = h2
  generalize hm2 : w_up m1 1076 45 0 = m2
  have h2q : ∀ z, z ≠ 0 → h2 z = h1 z := fun z a => by rw [← hh2]; funext o; rw [w_up_q a]
  have h20 : ∀ o, o ≠ 17 → h2 0 o = h 0 o := fun o a => by rw [← hh2, w_up_b a, h1q 0 (by decide) (by decide) (by decide)]
  have m2q : ∀ q, q ≠ 1076 → m2 q = m1 q := fun q a => by rw [← hm2]; funext o; rw [w_up_q a]
  have m276 : ∀ o, o ≠ 79 → o ≠ 32 → o ≠ 45 → m2 1076 o = m 1076 o := fun o a d e => by rw [← hm2, w_up_b e, m176, m0b o a d]
  have m279 : m2 1076 79 = 0 := by rw [← hm2, w_up_b (by decide), m176, m079]
  obtain ⟨s1, s2, s3, s4, s5, s6, s7, s8⟩ := H.2.2.2.2.1
  have H2 : CP h2 m2 n nw k (b + 20) := by
    refine CP_bld H (fun z hz => by rw [h2q z (by omega), h1q z (by omega) (by omega) (by omega)]) (fun q hq => by rw [m2q q (by omega), m1q q (by omega) (by omega) (by omega) (by omega)]) (h20 10 (by decide)) (by rw [h2q 4 (by decide), f2 7 (by decide), h0q 4 (by decide)]) (m276 2 (by decide) (by decide) (by decide)) (m276 48 (by decide) (by decide) (by decide)) ⟨?_, ?_, ?_, ?_, ?_, ?_, ?_, ?_⟩ (RSB_no H.2.2.2.2.2.1 (by rw [← hh2, w_up_at]) (h20 15 (by decide)) (h20 16 (by decide)) (by rw [← hm2, w_up_at]) (m276 46 (by decide) (by decide) (by decide)) (m276 47 (by decide) (by decide) (by decide))) ⟨fun a ha => ?_, fun a ha => ?_, fun a ha => ?_, fun a d ha hd => ?_⟩ (TY_fr H.2.2.2.2.2.2.2.1 (fun z a _ => by rw [h2q z (by omega), h1q z (by omega) (by omega) (by omega)]) (fun q hq => by rw [m2q q (by omega), m1q q (by omega) (by omega) (by omega) (by omega)])) (fun w hw => by rw [h2q 8 (by decide), m2q 1115 (by decide)]; exact f5 w hw) (by rw [m2q 1123 (by decide), m1q 1123 (by decide) (by decide) (by decide) (by decide)])
    · rw [h2q 40 (by decide), h140, h0b 0 (by decide), m276 31 (by decide) (by decide) (by decide)]; exact s1
    · rw [h2q 40 (by decide), h140, h01, ← hm2, w_up_b (by decide), m176, m032, s2]
    · rw [m276 29 (by decide) (by decide) (by decide)]; exact s3
    · rw [h20 12 (by decide), m276 20 (by decide) (by decide) (by decide)]; exact s4
    · rw [h20 13 (by decide), m276 21 (by decide) (by decide) (by decide)]; exact s5
    · rw [h20 14 (by decide)]; exact s6
    · rw [m276 19 (by decide) (by decide) (by decide)]; exact s7
    · rw [h20 11 (by decide), m276 22 (by decide) (by decide) (by decide)]; exact s8
    · rw [h2q 6 (by decide), h2q 7 (by decide), h1q 6 (by decide) (by decide) (by decide), h1q 7 (by decide) (by decide) (by decide), m2q 1113 (by decide), m2q 1114 (by decide), m1q 1113 (by decide) (by decide) (by decide) (by decide), m1q 1114 (by decide) (by decide) (by decide) (by decide)]
      exact H.2.2.2.2.2.2.1.1 a ha
    · rw [h2q 4 (by decide), f3, bt_zero] at ha; cases ha
    · rw [h2q 4 (by decide), f3, bt_zero, m2q 1117 (by decide), f6 a ha]; exact ⟨rfl, Or.inl rfl⟩
    · rw [h2q 10 (by decide), h1q 10 (by decide) (by decide) (by decide), m2q 1118 (by decide), m1q 1118 (by decide) (by decide) (by decide) (by decide)]
      exact H.2.2.2.2.2.2.1.2.2.2 a d ha hd
  obtain ⟨h3, m3, k3, q1, q2, H3, q4, R3⟩ := at_once H2 (by omega)
  have ev : h3 40 1 = m3 1076 32 := H3.2.2.2.2.1.2.1
  refine ⟨h3 40 1, h3, m3, ?_, ?_, ⟨n, nw, k3, H3⟩, EF_trans ⟨fun z hz => by rw [h2q z (by omega), h1q z (by omega) (by omega) (by omega)], fun q hq => by rw [m2q q (by omega), m1q q (by omega) (by omega) (by omega) (by omega)]⟩ (EF_RN R3)⟩
  · unfold p_105
    simp only [w_let]
    rw [hh0, p1]
    simp only [Option.bind_some]
    rw [hh2, q1]
    rfl
  · unfold p_177
    simp only [w_let]
    rw [hm0]
    cases hl : w_lp (fun (s : Int32 × Hp) => l_177_11 s.1 s.2) w_N (0, m0) with
    | none => rw [hl] at p2; cases p2
    | some y =>
      rw [hl] at p2
      simp only [Option.bind_some] at p2 ⊢
      rw [p2]
      simp only [Option.bind_some]
      rw [hm2, q2]
      simp only [Option.bind_some]
      rw [ev]
end SB4
