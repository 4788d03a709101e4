/-! ===== reading: clauses; read ===== -/
section R49
variable {T : List Int32} {q : Nat} {h : Hp} {s : RS}
theorem c_51 (H : rs T q h s) : ∃ h', p_51 h = some ((rnm T 5 0 s).1, h') ∧ rs T q h' (rnm T 5 0 s).2 ∧ rfr h h' := by
  unfold p_51
  have key : ∀ k, k ≤ 5 → ∀ (N : Nat) (x : Int32) (g : Hp) (s : RS), k < N → rs T q g s → ∃ h', w_lp (fun (t : Int32 × Int32 × Hp) => l_51_4 t.1 t.2.1 t.2.2) N (x, Int32.ofNat (5 - k), g) = some ((rnm T k x s).1, h') ∧ rs T q h' (rnm T k x s).2 ∧ rfr g h' := by
    intro k
    induction k with
    | zero =>
      intro _ N x g s hN H
      refine ⟨g, u_once (by omega) ?_, H, rfr_refl⟩
      show l_51_4 x (Int32.ofNat 5) g = _
      unfold l_51_4; rw [if_neg (by decide)]; rfl
    | succ k ih =>
      intro hk N x g s hN H
      obtain ⟨N, rfl⟩ : ∃ m, N = m + 1 := ⟨N - 1, by omega⟩
      have hlt : Int32.ofNat (5 - (k + 1)) < 5 := (u_ltL (by omega) (by decide)).mpr (show 5 - (k + 1) < 5 by omega)
      have e1 : Int32.ofNat (5 - (k + 1)) + 1 = Int32.ofNat (5 - k) := by rw [u_S, show 5 - (k + 1) + 1 = 5 - k by omega]
      have e5 : (Int32.ofNat (5 - k) = 5) ↔ k = 0 := by
        have := u_eqL (a := 5 - k) (n := 5) (by omega) (by decide)
        rw [this]
        show 5 - k = 5 ↔ k = 0
        omega
      simp only [rnm]
      rcases c_37 H with ⟨c1, h1, a1, a2, a3⟩ | ⟨c1, a1⟩
      · rw [if_pos c1]
        by_cases hk0 : k = 0
        · rw [if_pos hk0]
          refine ⟨h1, u_once (by omega) ?_, a2, a3⟩
          show l_51_4 x _ g = _
          unfold l_51_4
          rw [if_pos hlt, a1]; simp only [Option.bind_some]
          rw [if_neg (isL_ne c1), e1, if_pos (e5.mpr hk0)]
        · rw [if_neg hk0]
          rcases c_skip (x := 44) a2 (by decide) with ⟨c2, h2, b1, b2, b3⟩ | ⟨c2, b1⟩
          · have c2' : cat T (s.1 + 1) = 44 := c2
            rw [if_pos c2']
            have hstep : l_51_4 x (Int32.ofNat (5 - (k + 1))) g = some (.inl (x ||| (1 <<< ((cat T s.1 - 97) &&& 31)), Int32.ofNat (5 - k), h2)) := by
              unfold l_51_4
              rw [if_pos hlt, a1]; simp only [Option.bind_some]
              rw [if_neg (isL_ne c1), e1, if_neg (fun e => hk0 (e5.mp e)), b1]
              simp only [Option.bind_some]
              rw [if_neg (by decide)]
            simp only [w_lp, hstep]
            obtain ⟨h', d1, d2, d3⟩ := ih (by omega) N (x ||| (1 <<< ((cat T s.1 - 97) &&& 31))) h2 _ (by omega) b2
            exact ⟨h', d1, d2, rfr_trans a3 (rfr_trans b3 d3)⟩
          · have c2' : ¬ cat T (s.1 + 1) = 44 := c2
            rw [if_neg c2']
            refine ⟨h1, u_once (by omega) ?_, a2, a3⟩
            show l_51_4 x _ g = _
            unfold l_51_4
            rw [if_pos hlt, a1]; simp only [Option.bind_some]
            rw [if_neg (isL_ne c1), e1, if_neg (fun e => hk0 (e5.mp e)), b1]
            simp only [Option.bind_some, if_true]
      · rw [if_neg (by rw [c1]; decide)]
        refine ⟨g, u_once (by omega) ?_, H, rfr_refl⟩
        show l_51_4 x _ g = _
        unfold l_51_4
        rw [if_pos hlt, a1]; simp only [Option.bind_some, if_true]
  exact key 5 (Nat.le_refl _) w_N 0 h s (by decide) H
def tail50 : ((Int32 × Hp) ⊕ Int32 × Hp) → Option (Int32 × Hp) := Sum.elim (fun yz16 => w_gd ((yz16.2 17 1) == 24) <| w_gd ((yz16.2 17 1) == 24) <| w_let (w_up yz16.2 24 7 (yz16.1 &&& ((yz16.2 24 5) ^^^ (-1)))) fun hz20 => some (1, hz20)) (fun yz17 => some yz17)
theorem c_50 (H : rs T q h s) : ok (p_50 h) (QQ T q h (rcl T 40 0 s).1 (rcl T 40 0 s).2) := by
  have key : ∀ f, f ≤ 40 → ∀ (N : Nat) (nm : Int32) (g : Hp) (s : RS), f < N → rs T q g s → ok ((w_lp (fun (t : Int32 × Int32 × Hp) => l_50_4 t.1 t.2.1 t.2.2) N (nm, Int32.ofNat (40 - f), g)).bind tail50) (QQ T q g (rcl T f nm s).1 (rcl T f nm s).2) := by
    intro f
    induction f with
    | zero =>
      intro _ N nm g s hN H
      refine ok_bE (a := Sum.inr (0, g)) (u_once (by omega) ?_) ?_
      rotate_left
      · exact ok_some ⟨rfl, H, rfr_refl⟩
      show l_50_4 nm (Int32.ofNat 40) g = _
      unfold l_50_4; rw [if_neg (by decide)]
    | succ f ih =>
      intro hf N nm g s hN H
      obtain ⟨N, rfl⟩ : ∃ m, N = m + 1 := ⟨N - 1, by omega⟩
      have hlt : Int32.ofNat (40 - (f + 1)) < 40 := (u_ltL (by omega) (by decide)).mpr (show 40 - (f + 1) < 40 by omega)
      have e1 : Int32.ofNat (40 - (f + 1)) + 1 = Int32.ofNat (40 - f) := by rw [u_S, show 40 - (f + 1) + 1 = 40 - f by omega]
      have H0 := rs_start H
      have f0 : rfr g (w_up g 17 3 (g 17 2)) := rfr_17
      have hl : ∀ X, (p_37 (w_up g 17 3 (g 17 2))).bind (fun vz3 => if vz3.1 = (-1) then some (.inr (.inr (0, vz3.2))) else (p_36 vz3.2 58).bind fun vz5 => if vz5.1 = 0 then q_50_27 vz5.2 nm (Int32.ofNat (40 - (f + 1))) vz3.1 0 else (p_51 vz5.2).bind fun vz14 => q_50_27 vz14.2 nm (Int32.ofNat (40 - (f + 1))) vz3.1 vz14.1) = X → l_50_4 nm (Int32.ofNat (40 - (f + 1))) g = X := by
        intro X hX
        unfold l_50_4
        rw [if_pos hlt]
        exact hX
      generalize w_up g 17 3 (g 17 2) = g0 at *
      simp only [rcl]
      rcases c_37 H0 with ⟨c1, h1, a1, a2, a3⟩ | ⟨c1, a1⟩
      · rw [if_pos c1]
        have tl : ∀ (x : Int32) (s2 : RS) (g2 : Hp), rs T q g2 s2 → rfr g g2 → l_50_4 nm (Int32.ofNat (40 - (f + 1))) g = q_50_27 g2 nm (Int32.ofNat (40 - (f + 1))) (cat T (rstart s).1 - 97) x → ok ((w_lp (fun (t : Int32 × Int32 × Hp) => l_50_4 t.1 t.2.1 t.2.2) (N + 1) (nm, Int32.ofNat (40 - (f + 1)), g)).bind tail50) (QQ T q g (if x = -1 then (false, s2) else if cat T (rdef (re s2 (cat T (rstart s).1 - 97) x) (s2.2.2.2.2.1 ||| (1 <<< ((cat T (rstart s).1 - 97) &&& 31)))).1 = 59 then rcl T f (nm ||| x) (ra (rdef (re s2 (cat T (rstart s).1 - 97) x) (s2.2.2.2.2.1 ||| (1 <<< ((cat T (rstart s).1 - 97) &&& 31))))) else (true, ru (rdef (re s2 (cat T (rstart s).1 - 97) x) (s2.2.2.2.2.1 ||| (1 <<< ((cat T (rstart s).1 - 97) &&& 31)))) ((nm ||| x) &&& ((rdef (re s2 (cat T (rstart s).1 - 97) x) (s2.2.2.2.2.1 ||| (1 <<< ((cat T (rstart s).1 - 97) &&& 31)))).2.2.2.2.1 ^^^ (-1))))).1 (if x = -1 then (false, s2) else if cat T (rdef (re s2 (cat T (rstart s).1 - 97) x) (s2.2.2.2.2.1 ||| (1 <<< ((cat T (rstart s).1 - 97) &&& 31)))).1 = 59 then rcl T f (nm ||| x) (ra (rdef (re s2 (cat T (rstart s).1 - 97) x) (s2.2.2.2.2.1 ||| (1 <<< ((cat T (rstart s).1 - 97) &&& 31))))) else (true, ru (rdef (re s2 (cat T (rstart s).1 - 97) x) (s2.2.2.2.2.1 ||| (1 <<< ((cat T (rstart s).1 - 97) &&& 31)))) ((nm ||| x) &&& ((rdef (re s2 (cat T (rstart s).1 - 97) x) (s2.2.2.2.2.1 ||| (1 <<< ((cat T (rstart s).1 - 97) &&& 31)))).2.2.2.2.1 ^^^ (-1))))).2) := by
          intro x s2 g2 H2 hg hq
          generalize cat T (rstart s).1 - 97 = hd at *
          by_cases hx : x = -1
          · rw [if_pos hx]
            refine ok_bE (a := Sum.inr (0, g2)) (u_once (by omega) ?_) ?_
            rotate_left
            · exact ok_some ⟨rfl, H2, hg⟩
            show l_50_4 _ _ _ = _
            rw [hq]; unfold q_50_27; rw [if_pos hx]
          · rw [if_neg hx]
            obtain ⟨g3, b1, b2, b3⟩ := c_add (k := hd) (d := x) H2
            have d1 : g3 24 5 = s2.2.2.2.2.1 := (rs_code b2).1
            obtain ⟨p1, p2⟩ := rs_def (x := s2.2.2.2.2.1 ||| (1 <<< (hd &&& 31))) b2
            have hq2 : ∀ X, (p_36 (w_up g3 24 5 (s2.2.2.2.2.1 ||| (1 <<< (hd &&& 31)))) 59).bind (fun vz12 => if vz12.1 = 0 then some (.inr (.inl ((nm ||| x), vz12.2))) else some (.inl ((nm ||| x), (Int32.ofNat (40 - (f + 1)) + 1), vz12.2))) = X → l_50_4 nm (Int32.ofNat (40 - (f + 1))) g = X := by
              intro X hX
              rw [hq]; unfold q_50_27
              rw [if_neg hx, rs24 H2]
              simp only [w_gd]
              rw [b1]
              simp only [Option.bind_some]
              rw [rs24 b2, d1]
              exact hX
            generalize w_up g3 24 5 (s2.2.2.2.2.1 ||| (1 <<< (hd &&& 31))) = g4 at *
            generalize rdef (re s2 hd x) (s2.2.2.2.2.1 ||| (1 <<< (hd &&& 31))) = s4 at *
            have hg4 : rfr g g4 := rfr_trans hg (rfr_trans b3 p2)
            rcases c_skip (x := 59) p1 (by decide) with ⟨c2, g5, m1, m2, m3⟩ | ⟨c2, m1⟩
            · rw [if_pos c2]
              have hstep : l_50_4 nm (Int32.ofNat (40 - (f + 1))) g = some (.inl ((nm ||| x), Int32.ofNat (40 - f), g5)) := by
                refine hq2 _ ?_
                rw [m1]; simp only [Option.bind_some]
                rw [if_neg (by decide), e1]
              simp only [w_lp, hstep]
              refine ok_mono (ih (by omega) N (nm ||| x) g5 _ (by omega) m2) ?_
              intro r hr
              exact QQ_tr (rfr_trans hg4 m3) hr
            · rw [if_neg c2]
              refine ok_bE (a := Sum.inl ((nm ||| x), g4)) (u_once (by omega) ?_) ?_
              rotate_left
              · simp only [tail50, Sum.elim_inl]
                rw [rs24 p1]
                have e5 : g4 24 5 = s4.2.2.2.2.1 := (rs_code p1).1
                simp only [w_gd, w_let]
                rw [e5]
                obtain ⟨u1, u2⟩ := rs_use (x := (nm ||| x) &&& (s4.2.2.2.2.1 ^^^ (-1))) p1
                exact ok_some ⟨rfl, u1, rfr_trans hg4 u2⟩
              show l_50_4 _ _ _ = _
              refine hq2 _ ?_
              rw [m1]; simp only [Option.bind_some, if_true]
        rcases c_skip (x := 58) a2 (by decide) with ⟨c2, h2, b1, b2, b3⟩ | ⟨c2, b1⟩
        · have c2' : cat T ((rstart s).1 + 1) = 58 := c2
          rw [if_pos c2']
          obtain ⟨h3, d1, d2, d3⟩ := c_51 b2
          refine tl _ _ h3 d2 (rfr_trans f0 (rfr_trans a3 (rfr_trans b3 d3))) ?_
          refine hl _ ?_
          rw [a1]; simp only [Option.bind_some]
          rw [if_neg (isL_ne c1), b1]; simp only [Option.bind_some]
          rw [if_neg (by decide), d1]; rfl
        · have c2' : ¬ cat T ((rstart s).1 + 1) = 58 := c2
          rw [if_neg c2']
          refine tl 0 _ h1 a2 (rfr_trans f0 a3) ?_
          refine hl _ ?_
          rw [a1]; simp only [Option.bind_some]
          rw [if_neg (isL_ne c1), b1]; simp only [Option.bind_some, if_true]
      · rw [if_neg (by rw [c1]; decide)]
        refine ok_bE (a := Sum.inr (0, g0)) (u_once (by omega) ?_) ?_
        rotate_left
        · exact ok_some ⟨rfl, H0, f0⟩
        show l_50_4 _ _ _ = _
        refine hl _ ?_
        rw [a1]; simp only [Option.bind_some, if_true]
  exact key 40 (Nat.le_refl _) w_N 0 h s (by decide) H
/-- reading a text in a language: what stands at the end -/
def rdA (T : List Int32) (lang : Int32) : Bool × RS :=
  if lang = 1 then rqu T (0, [], 0, 0, 0, 0, 0) else if lang = 2 then rcl T 40 0 (0, [], 0, 0, 0, 0, 0) else rss T 40 (0, [], 0, 0, 0, 0, 0)
/-- the fault's place; -1 without -/
def rdF (T : List Int32) (lang : Int32) : Int32 := if (rdA T lang).1 = true then (if (rdA T lang).2.1 < T.length then Int32.ofNat (rdA T lang).2.1 else -1) else Int32.ofNat (rdA T lang).2.1
theorem c_35 {lang : Int32} (hq : q = 48 ∨ q = 50) (ht : tx h q T) : ok (p_35 h q lang) (fun r => r.1 = rdF T lang ∧ rs T q r.2 (rdA T lang).2 ∧ w_fr rdP h r.2 ∧ r.2 24 4 = lang) := by
  unfold p_35
  simp only [w_let]
  generalize hg1 : w_up (w_up h 17 0 (Int32.ofNat q)) 17 1 (Int32.ofNat 24) = g1
  have g1e : (g1 17 1 == 24) = true := by rw [← hg1, w_up_at]; rfl
  rw [g1e]
  simp only [w_gd, p_8, w_let, Option.bind_some]
  generalize hg : w_up (w_up (w_up (w_up (w_up (w_up (w_up (w_up g1 24 3 0) 24 4 lang) 24 5 0) 24 6 0) 24 7 0) 17 2 0) 17 3 0) 17 4 0 = g
  have fr : w_fr rdP h g := by
    rw [← hg, ← hg1]
    repeat' (first | exact w_fr_refl _ _ | refine w_fr_up ?_ (by unfold rdP; omega))
  have H : rs T q g (0, [], 0, 0, 0, 0, 0) := by
    have n1 : ∀ z, ¬ rdP z → g z = h z := fr
    refine ⟨hq, tx_fr ht (by rw [n1 q (by unfold rdP; omega)]) (n1 (q + 1) (by unfold rdP; omega)), ?_, ?_, ?_, Nat.zero_le _, ?_, ?_, ?_, by decide, fun i hi => by simp at hi, ?_, ?_, ?_⟩
    · rw [← hg, ← hg1]; simp (disch := decide) only [w_up_q, w_up_b, w_up_at]
    · rw [← hg, ← hg1]; simp (disch := decide) only [w_up_q, w_up_b, w_up_at]; rfl
    · rw [← hg, ← hg1]; simp (disch := decide) only [w_up_q, w_up_b, w_up_at]; rfl
    · rw [← hg, ← hg1]; simp (disch := decide) only [w_up_q, w_up_b, w_up_at]; rfl
    · rw [← hg, ← hg1]; simp (disch := decide) only [w_up_q, w_up_b, w_up_at]
    · rw [← hg, ← hg1]; simp (disch := decide) only [w_up_q, w_up_b, w_up_at]; rfl
    · rw [← hg, ← hg1]; simp (disch := decide) only [w_up_q, w_up_b, w_up_at]
    · rw [← hg, ← hg1]; simp (disch := decide) only [w_up_q, w_up_b, w_up_at]
    · rw [← hg, ← hg1]; simp (disch := decide) only [w_up_q, w_up_b, w_up_at]
  have h4 : g 24 4 = lang := by
    rw [← hg, ← hg1]; simp (disch := decide) only [w_up_q, w_up_b, w_up_at]
  have fin : ∀ (b : Bool) (s' : RS) (r : Int32 × Hp), QQ T q g b s' r → rdA T lang = (b, s') → ok (q_35_33 r.2 r.1) (fun r => r.1 = rdF T lang ∧ rs T q r.2 (rdA T lang).2 ∧ w_fr rdP h r.2 ∧ r.2 24 4 = lang) := by
    rintro b s' r ⟨r1, r2, r3⟩ he
    unfold q_35_33 rdF
    rw [he]
    have hp := (rs_code r2).2.2.2.2
    obtain ⟨e, gd, -⟩ := rs_at r2
    cases b with
    | false =>
      rw [if_pos (by rw [r1]; rfl)]
      exact ok_some ⟨hp.1, r2, w_fr_trans fr r3.1, r3.2.trans h4⟩
    | true =>
      rw [if_neg (by rw [r1]; decide), gd, e]
      have hl : r.2 q 1 = Int32.ofNat T.length := r2.2.1.2.1
      refine ok_some ⟨?_, r2, w_fr_trans fr r3.1, r3.2.trans h4⟩
      dsimp only
      rw [hp.1, hl]
      have h40 := hp.2.2; have hps := hp.2.1
      simp only [u_lt (show s'.1 < 2147483648 by omega) (show T.length < 2147483648 by omega), if_true]
  by_cases l1 : lang = 1
  · rw [if_pos l1]
    refine ok_bind (c_48 H) ?_
    intro r hr
    exact fin _ _ r hr (by unfold rdA; rw [if_pos l1])
  · rw [if_neg l1]
    by_cases l2 : lang = 2
    · rw [if_pos l2]
      refine ok_bind (c_50 H) ?_
      intro r hr
      exact fin _ _ r hr (by unfold rdA; rw [if_neg l1, if_pos l2])
    · rw [if_neg l2]
      refine ok_bind (c_39 H) ?_
      intro r hr
      exact fin _ _ r hr (by unfold rdA; rw [if_neg l1, if_neg l2])
end R49
