/-! ===== the model's faults of clauses; faultOf ===== -/
def rnt (T : List Int32) (k : Nat) (y : Int32) (s : RS) : Int32 × RS := if k = 0 then (y, s) else if cat T s.1 = 44 then rnm T k y (ra s) else (y, s)
theorem rnm_S {T : List Int32} {k : Nat} {x : Int32} {s : RS} : rnm T (k + 1) x s = if isL (cat T s.1) = true then rnt T k (x ||| (1 <<< ((cat T s.1 - 97) &&& 31))) (ra s) else (-1, s) := rfl
theorem bt31 {x c : Int32} (hx : bt x 31 = false) (hc : isL c = true) : bt (x ||| (1 <<< ((c - 97) &&& 31))) 31 = false := by
  obtain ⟨l, hl, -, e⟩ := L_nat hc
  rw [e, bt_or, hx, bt_one (by omega)]
  simp; omega
theorem ne_m1 {x : Int32} (hx : bt x 31 = false) : ¬ x = -1 := by
  rintro rfl
  exact absurd hx (by decide)
section S56
variable {T : List Int32} {m : Hp}
theorem m_nms : ∀ (k : Nat) (y : Int32) (s : RS) (m : Hp), k ≤ 4 → bt y 31 = false → ma T m s.1 → ∀ N, k < N → ∃ m', w_lp (fun (t : Int32 × Hp) => l_157_32 t.1 t.2) N (Int32.ofNat (5 - k), m) = some (if (rnt T k y s).1 = -1 then .inr (0, m') else .inl m') ∧ ma T m' (rnt T k y s).2.1 ∧ sfr m m' := by
  intro k
  induction k with
  | zero =>
    intro y s m _ hy H N hN
    have e : rnt T 0 y s = (y, s) := rfl
    rw [e]
    refine ⟨m, ?_, H, sfr_refl⟩
    rw [if_neg (ne_m1 hy)]
    refine u_once hN ?_
    show l_157_32 (Int32.ofNat 5) m = _
    unfold l_157_32; rw [if_neg (by decide)]
  | succ k ih =>
    intro y s m hk hy H N hN
    obtain ⟨N, rfl⟩ : ∃ q, N = q + 1 := ⟨N - 1, by omega⟩
    have hlt : Int32.ofNat (5 - (k + 1)) < 5 := (u_ltL (by omega) (by decide)).mpr (show 5 - (k + 1) < 5 by omega)
    obtain ⟨m1, a1, a2, a3⟩ := m_is (x := 44) (by decide) (by decide) H
    have hl : l_157_32 (Int32.ofNat (5 - (k + 1))) m = if cat T s.1 = 44 then (w_gd (g_150 m1) <| (p_155 m1 (v_148 (v_150 m1))).bind fun vz24 => if vz24.1 = 0 then some (.inr (.inr (0, vz24.2))) else some (.inl (Int32.ofNat (5 - (k + 1)) + 1, vz24.2))) else some (.inr (.inl m1)) := by
      unfold l_157_32
      rw [if_pos hlt, (ma_g H).2]
      simp only [w_gd, q_157_43]
      rw [a1]
      simp only [Option.bind_some]
      by_cases c : cat T s.1 = 44
      · rw [decide_eq_true c, if_neg (by decide), if_pos c]
      · rw [decide_eq_false c, if_pos (by rfl), if_neg c]
    have er : rnt T (k + 1) y s = if cat T s.1 = 44 then rnm T (k + 1) y (ra s) else (y, s) := by
      unfold rnt; rw [if_neg (Nat.succ_ne_zero k)]
    rw [er]
    by_cases c : cat T s.1 = 44
    · rw [if_pos c] at hl a2
      rw [if_pos c, rnm_S]
      obtain ⟨m2, b1, b2, b3⟩ := m_let a2
      rw [(ma_g a2).2, b1] at hl
      simp only [w_gd, Option.bind_some] at hl
      by_cases c2 : isL (cat T (s.1 + 1)) = true
      · rw [if_pos c2] at b2
        have c2' : isL (cat T (ra s).1) = true := c2
        rw [if_pos c2']
        rw [c2, if_neg (by decide), u_S, show 5 - (k + 1) + 1 = 5 - k by omega] at hl
        simp only [w_lp, hl]
        obtain ⟨m3, d1, d2, d3⟩ := ih (y ||| (1 <<< ((cat T (ra s).1 - 97) &&& 31))) (ra (ra s)) m2 (by omega) (bt31 hy c2') b2 N (by omega)
        exact ⟨m3, d1, d2, sfr_trans a3 (sfr_trans b3 d3)⟩
      · have c2' : ¬ isL (cat T (ra s).1) = true := c2
        rw [if_neg c2] at b2
        rw [if_neg c2']
        have c3 : isL (cat T (s.1 + 1)) = false := by simpa using c2
        rw [c3, if_pos (by rfl)] at hl
        refine ⟨m2, ?_, b2, sfr_trans a3 b3⟩
        rw [if_pos rfl]
        exact u_once (Nat.succ_pos _) hl
    · rw [if_neg c] at hl a2
      rw [if_neg c]
      refine ⟨m1, ?_, a2, a3⟩
      rw [if_neg (ne_m1 hy)]
      exact u_once (Nat.succ_pos _) hl
theorem m_157 (H : ma T m 0) : ∃ m', p_157 m = some (ofB ((rcl T 40 0 (0, [], 0, 0, 0, 0, 0)).1 && decide ((rcl T 40 0 (0, [], 0, 0, 0, 0, 0)).2.1 = T.length)), m') ∧ ma T m' (rcl T 40 0 (0, [], 0, 0, 0, 0, 0)).2.1 ∧ sfr m m' := by
  have key : ∀ f, ∀ (nm : Int32) (s : RS) (m : Hp) (N : Nat), ma T m s.1 → 41 ≤ 2 * f + s.1 → f + 1 < N → ∃ m', w_lp (fun (t : Int32 × Hp) => l_157_2 t.1 t.2) N (1, m) = some (ofB ((rcl T f nm s).1 && decide ((rcl T f nm s).2.1 = T.length)), m') ∧ ma T m' (rcl T f nm s).2.1 ∧ sfr m m' := by
    intro f
    induction f with
    | zero =>
      intro nm s m N H hf
      have := H.1.1; have := H.2.2
      omega
    | succ f ih =>
      intro nm s m N H hf hN
      obtain ⟨N, rfl⟩ : ∃ q, N = q + 1 := ⟨N - 1, by omega⟩
      have h40 := H.1.1
      obtain ⟨m1, a1, a2, a3⟩ := m_let H
      have e0 : (rstart s).1 = s.1 := rfl
      simp only [rcl, e0]
      by_cases c1 : isL (cat T s.1) = true
      rotate_left
      · have c1' : isL (cat T s.1) = false := by simpa using c1
        rw [if_neg c1] at a2
        rw [if_neg c1]
        refine ⟨m1, u_once (Nat.succ_pos _) (e := (0, m1)) ?_, a2, a3⟩
        show l_157_2 1 m = _
        unfold l_157_2
        rw [if_neg (by decide), (ma_g H).2]
        simp only [w_gd]
        rw [a1]; simp only [Option.bind_some]
        rw [c1', if_pos (by rfl)]
      rw [if_pos c1] at a2
      rw [if_pos c1]
      obtain ⟨m2, b1, b2, b3⟩ := m_is (x := 58) (by decide) (by decide) a2
      have hl1 : l_157_2 1 m = q_157_20 m1 (if v_150 m1 = 58 then 1 else 0) := by
        unfold l_157_2
        rw [if_neg (by decide), (ma_g H).2]
        simp only [w_gd]
        rw [a1]; simp only [Option.bind_some]
        rw [c1, if_neg (by decide), (ma_g a2).2]
      -- behind the head and its names
      have tl : ∀ (x : Int32) (s2 : RS) (m3 : Hp), ¬ x = -1 → s.1 < s2.1 → ma T m3 s2.1 → sfr m m3 → l_157_2 1 m = q_157_54 m3 → ∃ m', w_lp (fun (t : Int32 × Hp) => l_157_2 t.1 t.2) (N + 1) (1, m) = some (ofB ((if x = -1 then (false, s2) else if cat T (rdef (re s2 (cat T s.1 - 97) x) (s2.2.2.2.2.1 ||| (1 <<< ((cat T s.1 - 97) &&& 31)))).1 = 59 then rcl T f (nm ||| x) (ra (rdef (re s2 (cat T s.1 - 97) x) (s2.2.2.2.2.1 ||| (1 <<< ((cat T s.1 - 97) &&& 31))))) else (true, ru (rdef (re s2 (cat T s.1 - 97) x) (s2.2.2.2.2.1 ||| (1 <<< ((cat T s.1 - 97) &&& 31)))) ((nm ||| x) &&& ((rdef (re s2 (cat T s.1 - 97) x) (s2.2.2.2.2.1 ||| (1 <<< ((cat T s.1 - 97) &&& 31)))).2.2.2.2.1 ^^^ (-1))))).1 && decide ((if x = -1 then (false, s2) else if cat T (rdef (re s2 (cat T s.1 - 97) x) (s2.2.2.2.2.1 ||| (1 <<< ((cat T s.1 - 97) &&& 31)))).1 = 59 then rcl T f (nm ||| x) (ra (rdef (re s2 (cat T s.1 - 97) x) (s2.2.2.2.2.1 ||| (1 <<< ((cat T s.1 - 97) &&& 31))))) else (true, ru (rdef (re s2 (cat T s.1 - 97) x) (s2.2.2.2.2.1 ||| (1 <<< ((cat T s.1 - 97) &&& 31)))) ((nm ||| x) &&& ((rdef (re s2 (cat T s.1 - 97) x) (s2.2.2.2.2.1 ||| (1 <<< ((cat T s.1 - 97) &&& 31)))).2.2.2.2.1 ^^^ (-1))))).2.1 = T.length)), m') ∧ ma T m' (if x = -1 then (false, s2) else if cat T (rdef (re s2 (cat T s.1 - 97) x) (s2.2.2.2.2.1 ||| (1 <<< ((cat T s.1 - 97) &&& 31)))).1 = 59 then rcl T f (nm ||| x) (ra (rdef (re s2 (cat T s.1 - 97) x) (s2.2.2.2.2.1 ||| (1 <<< ((cat T s.1 - 97) &&& 31))))) else (true, ru (rdef (re s2 (cat T s.1 - 97) x) (s2.2.2.2.2.1 ||| (1 <<< ((cat T s.1 - 97) &&& 31)))) ((nm ||| x) &&& ((rdef (re s2 (cat T s.1 - 97) x) (s2.2.2.2.2.1 ||| (1 <<< ((cat T s.1 - 97) &&& 31)))).2.2.2.2.1 ^^^ (-1))))).2.1 ∧ sfr m m' := by
        intro x s2 m3 hx hlt H3 hf3 hl
        rw [if_neg hx]
        generalize hs4 : rdef (re s2 (cat T s.1 - 97) x) (s2.2.2.2.2.1 ||| (1 <<< ((cat T s.1 - 97) &&& 31))) = s4
        have e4 : s4.1 = s2.1 := by rw [← hs4]; rfl
        rw [e4]
        have hmany : (m3 1076 67 < m3 1076 66) ↔ s2.1 < T.length := by
          have := H3.2.2
          rw [H3.2.1, H3.1.2.1]; exact u_lt (by omega) (by omega)
        have hl54 : q_157_54 m3 = if s2.1 < T.length then (w_gd (g_150 m3) <| q_157_73 m3 1 (if v_150 m3 = 59 then 1 else 0)) else some (.inl (0, m3)) := by
          unfold q_157_54 q_157_62
          simp only [hmany]
          by_cases c : s2.1 < T.length
          · rw [if_pos c, if_pos c, if_neg (by decide)]
          · rw [if_neg c, if_neg c, if_pos rfl]
        rw [hl54] at hl
        by_cases c : s2.1 < T.length
        · rw [if_pos c, (ma_g H3).2] at hl
          simp only [w_gd] at hl
          unfold q_157_73 at hl
          obtain ⟨m4, d1, d2, d3⟩ := m_is (x := 59) (by decide) (by decide) H3
          rw [d1] at hl
          simp only [Option.bind_some] at hl
          by_cases c2 : cat T s2.1 = 59
          · rw [if_pos c2] at d2
            rw [decide_eq_true c2, if_neg (by decide)] at hl
            rw [if_pos c2]
            simp only [w_lp, hl]
            have e5 : (ra s4).1 = s2.1 + 1 := by show s4.1 + 1 = _; rw [e4]
            obtain ⟨m5, f1, f2, f3⟩ := ih (nm ||| x) (ra s4) m4 N (by rw [e5]; exact d2) (by rw [e5]; omega) (by omega)
            exact ⟨m5, f1, f2, sfr_trans hf3 (sfr_trans d3 f3)⟩
          · rw [if_neg c2] at d2
            rw [decide_eq_false c2, if_pos (by rfl)] at hl
            rw [if_neg c2]
            have e5 : (ru s4 ((nm ||| x) &&& (s4.2.2.2.2.1 ^^^ (-1)))).1 = s2.1 := e4
            dsimp only
            rw [e5, decide_eq_false (by omega)]
            exact ⟨m4, u_once (Nat.succ_pos _) hl, d2, sfr_trans hf3 d3⟩
        · rw [if_neg c] at hl
          have c2 : ¬ cat T s2.1 = 59 := fun e => c (cat_eq e (by decide))
          rw [if_neg c2]
          have e5 : (ru s4 ((nm ||| x) &&& (s4.2.2.2.2.1 ^^^ (-1)))).1 = s2.1 := e4
          dsimp only
          have hle := H3.2.2
          rw [e5, decide_eq_true (by omega)]
          simp only [w_lp, hl]
          refine ⟨m3, u_once (by omega) ?_, H3, hf3⟩
          show l_157_2 0 m3 = _
          unfold l_157_2; rw [if_pos rfl]; rfl
      by_cases c2 : cat T (s.1 + 1) = 58
      · rw [if_pos c2] at b2
        rw [if_pos c2]
        obtain ⟨m3, d1, d2, d3⟩ := m_let b2
        have er : rnm T 5 0 (ra (ra (rstart s))) = if isL (cat T (s.1 + 1 + 1)) = true then rnt T 4 ((0 : Int32) ||| (1 <<< ((cat T (s.1 + 1 + 1) - 97) &&& 31))) (ra (ra (ra (rstart s)))) else (-1, ra (ra (rstart s))) := rnm_S
        rw [er]
        have hl2 : q_157_20 m1 (if v_150 m1 = 58 then 1 else 0) = if isL (cat T (s.1 + 1 + 1)) = true then (w_lp (fun (t : Int32 × Hp) => l_157_32 t.1 t.2) w_N (1, m3)).bind (Sum.elim (fun yz27 => q_157_54 yz27) (fun yz28 => some (.inr yz28))) else some (.inr (0, m3)) := by
          unfold q_157_20
          rw [b1]; simp only [Option.bind_some]
          rw [decide_eq_true c2, if_neg (by decide), (ma_g b2).2]
          simp only [w_gd]
          rw [d1]; simp only [Option.bind_some]
          cases isL (cat T (s.1 + 1 + 1)) with
          | true => rw [if_neg (by decide), if_pos rfl]
          | false => rw [if_pos (by rfl), if_neg (by decide)]
        by_cases c3 : isL (cat T (s.1 + 1 + 1)) = true
        · rw [if_pos c3] at d2 hl2
          rw [if_pos c3]
          obtain ⟨m4, f1, f2, f3⟩ := m_nms 4 ((0 : Int32) ||| (1 <<< ((cat T (s.1 + 1 + 1) - 97) &&& 31))) (ra (ra (ra (rstart s)))) m3 (Nat.le_refl _) (bt31 (by decide) c3) d2 w_N (by decide)
          have f1' : w_lp (fun (t : Int32 × Hp) => l_157_32 t.1 t.2) w_N (1, m3) = _ := f1
          rw [f1'] at hl2
          simp only [Option.bind_some] at hl2
          have hfr : sfr m m4 := sfr_trans a3 (sfr_trans b3 (sfr_trans d3 f3))
          generalize hr : rnt T 4 ((0 : Int32) ||| (1 <<< ((cat T (s.1 + 1 + 1) - 97) &&& 31))) (ra (ra (ra (rstart s)))) = r at *
          by_cases c4 : r.1 = -1
          · rw [if_pos c4] at hl2
            simp only [Sum.elim_inr] at hl2
            rw [if_pos c4]
            exact ⟨m4, u_once (Nat.succ_pos _) (hl1.trans hl2), f2, hfr⟩
          · rw [if_neg c4] at hl2
            simp only [Sum.elim_inl] at hl2
            refine tl r.1 r.2 m4 c4 ?_ f2 hfr (hl1.trans hl2)
            have hmono : ∀ k y (s0 : RS), s0.1 ≤ (rnm T k y s0).2.1 := by
              intro k
              induction k with
              | zero => intro y s0; exact Nat.le_refl _
              | succ k ihk =>
                intro y s0
                rw [rnm_S]
                split
                · unfold rnt
                  split
                  · show s0.1 ≤ s0.1 + 1; omega
                  · split
                    · have := ihk (y ||| (1 <<< ((cat T s0.1 - 97) &&& 31))) (ra (ra s0))
                      have h2 : (ra (ra s0)).1 = s0.1 + 2 := rfl
                      omega
                    · show s0.1 ≤ s0.1 + 1; omega
                · exact Nat.le_refl _
            have hq := hmono 5 0 (ra (ra (rstart s)))
            rw [er, if_pos c3] at hq
            have h2 : (ra (ra (rstart s))).1 = s.1 + 2 := rfl
            omega
        · rw [if_neg c3] at d2 hl2
          rw [if_neg c3, if_pos rfl]
          exact ⟨m3, u_once (Nat.succ_pos _) (hl1.trans hl2), d2, sfr_trans a3 (sfr_trans b3 d3)⟩
      · rw [if_neg c2] at b2
        rw [if_neg c2]
        refine tl 0 (ra (rstart s)) m2 (by decide) (by show s.1 < s.1 + 1; omega) b2 (sfr_trans a3 b3) (hl1.trans ?_)
        unfold q_157_20
        rw [b1]; simp only [Option.bind_some]
        rw [decide_eq_false c2, if_pos (by rfl)]
  exact key 40 0 (0, [], 0, 0, 0, 0, 0) m w_N H (by decide) (by decide)
end S56
