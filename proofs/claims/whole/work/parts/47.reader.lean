/-! ===== reading: enough fuel; statements ===== -/
theorem rR_some {T : List Int32} (hT : T.length ≤ 40) : ∀ f w s, s.1 ≤ T.length → (w ≤ 3 ∨ (5 ≤ w ∧ w ≤ 15)) → 8 * (41 - s.1) + (if w = 3 then 1 else if w = 2 then 2 else if w = 1 then 3 else if w = 0 then 4 else if w ≤ 7 then 1 else 5) ≤ f → ∃ b s', rR T f w s = some (b, s') := by
  intro f
  induction f with
  | zero =>
    intro w s hp hw hf
    exfalso
    split at hf
    · omega
    · split at hf
      · omega
      · split at hf
        · omega
        · split at hf
          · omega
          · split at hf <;> omega
  | succ f ih =>
    intro w s hp hw hf
    have seq : ∀ w1 s1 (k : RS → Option (Bool × RS)), (∃ b s', rR T f w1 s1 = some (b, s')) → (∀ s', rR T f w1 s1 = some (true, s') → ∃ b s'', k s' = some (b, s'')) → ∃ b s', bb (rR T f w1 s1) k = some (b, s') := by
      rintro w1 s1 k ⟨b, s', e⟩ hk
      rw [e]
      cases b with
      | true => exact hk s' e
      | false => exact ⟨false, s', rfl⟩
    rw [rR]
    by_cases w0 : w = 0
    · rw [if_pos w0]
      rw [if_neg (by omega), if_neg (by omega), if_neg (by omega), if_pos w0] at hf
      refine seq _ _ _ (ih 1 s hp (by omega) (by simp; omega)) (fun s' e => ?_)
      have hm := rR_mono _ _ _ _ _ e
      have := hm.2.2 rfl (by decide) (by decide) (by decide)
      exact ih 5 s' (hm.2.1 hp) (by omega) (by simp; omega)
    rw [if_neg w0]
    by_cases w1 : w = 1
    · rw [if_pos w1]
      rw [if_neg (by omega), if_neg (by omega), if_pos w1] at hf
      refine seq _ _ _ (ih 2 s hp (by omega) (by simp; omega)) (fun s' e => ?_)
      have hm := rR_mono _ _ _ _ _ e
      have := hm.2.2 rfl (by decide) (by decide) (by decide)
      exact ih 6 s' (hm.2.1 hp) (by omega) (by simp; omega)
    rw [if_neg w1]
    by_cases w2 : w = 2
    · rw [if_pos w2]
      rw [if_neg (by omega), if_pos w2] at hf
      refine seq _ _ _ (ih 3 s hp (by omega) (by simp; omega)) (fun s' e => ?_)
      have hm := rR_mono _ _ _ _ _ e
      have := hm.2.2 rfl (by decide) (by decide) (by decide)
      exact ih 7 s' (hm.2.1 hp) (by omega) (by simp; omega)
    rw [if_neg w2]
    by_cases w3 : w = 3
    · rw [if_pos w3]
      rw [if_pos w3] at hf
      split
      · rename_i c
        have hlt := cat_eq c (by decide)
        obtain ⟨b, s', e⟩ := ih 2 (ra s) hlt (by omega) (by show 8 * (41 - (s.1 + 1)) + _ ≤ f; simp; omega)
        rw [e]; exact ⟨_, _, rfl⟩
      · split
        · rename_i c
          have hlt := cat_eq c (by decide)
          refine seq _ _ _ (ih 0 (ra s) hlt (by omega) (by show 8 * (41 - (s.1 + 1)) + _ ≤ f; simp; omega)) (fun s' e => ?_)
          split <;> exact ⟨_, _, rfl⟩
        · split
          · rename_i c
            have hlt := cat_eq c (by decide)
            exact ih 8 (ra s) hlt (by omega) (by show 8 * (41 - (s.1 + 1)) + _ ≤ f; simp; omega)
          · exact ⟨_, _, rfl⟩
    rw [if_neg w3]
    have op : ∀ w1 w2 k, (w1 = 1 ∨ w1 = 2) → (w2 = 5 ∨ w2 = 6) → s.1 < T.length → 8 * (41 - s.1) ≤ f → ∃ b s', bb (rR T f w1 (ra s)) (fun s' => rR T f w2 (re s' k 0)) = some (b, s') := by
      intro w1 w2 k h1 h2 hlt hff
      refine seq _ _ _ (ih w1 (ra s) hlt (by omega) (by show 8 * (41 - (s.1 + 1)) + _ ≤ f; rcases h1 with rfl | rfl <;> simp <;> omega)) (fun s' e => ?_)
      have hm := rR_mono _ _ _ _ _ e
      have hm1 : s.1 + 1 ≤ s'.1 := hm.1
      exact ih w2 (re s' k 0) (hm.2.1 hlt) (by omega) (by show 8 * (41 - s'.1) + _ ≤ f; rcases h2 with rfl | rfl <;> simp <;> omega)
    by_cases w5 : w = 5
    · rw [if_pos w5]
      rw [if_neg (by omega), if_neg (by omega), if_neg (by omega), if_neg (by omega), if_pos (by omega)] at hf
      split
      · rename_i c; exact op 1 5 4 (by omega) (by omega) (cat_eq c (by decide)) (by omega)
      · split
        · rename_i c; exact op 1 5 5 (by omega) (by omega) (cat_eq c (by decide)) (by omega)
        · exact ⟨_, _, rfl⟩
    rw [if_neg w5]
    by_cases w6 : w = 6
    · rw [if_pos w6]
      rw [if_neg (by omega), if_neg (by omega), if_neg (by omega), if_neg (by omega), if_pos (by omega)] at hf
      split
      · rename_i c; exact op 2 6 6 (by omega) (by omega) (cat_eq c (by decide)) (by omega)
      · exact ⟨_, _, rfl⟩
    rw [if_neg w6]
    by_cases w7 : w = 7
    · rw [if_pos w7]
      rw [if_neg (by omega), if_neg (by omega), if_neg (by omega), if_neg (by omega), if_pos (by omega)] at hf
      split
      · rename_i c
        split
        · rename_i c2
          have hlt := isD_lt c2
          exact ih 7 (ra (re (ra s) 7 (cat T (s.1 + 1) - 48))) hlt (by omega) (by show 8 * (41 - (s.1 + 1 + 1)) + _ ≤ f; simp; omega)
        · exact ⟨_, _, rfl⟩
      · exact ⟨_, _, rfl⟩
    rw [if_neg w7]
    rw [if_neg (by omega), if_neg (by omega), if_neg (by omega), if_neg (by omega), if_neg (by omega)] at hf
    refine seq _ _ _ (ih 0 s hp (by omega) (by simp; omega)) (fun s1 e => ?_)
    have hm := rR_mono _ _ _ _ _ e
    have hm3 := hm.2.2 rfl (by decide) (by decide) (by decide)
    split
    · exact ⟨_, _, rfl⟩
    · split
      · exact ⟨_, _, rfl⟩
      · split
        · rename_i c
          have hlt := cat_eq c (by decide)
          exact ih (w + 1) (ra (re s1 9 0)) hlt (by omega) (by
            show 8 * (41 - (s1.1 + 1)) + _ ≤ f
            rw [if_neg (by omega), if_neg (by omega), if_neg (by omega), if_neg (by omega), if_neg (by omega)]
            omega)
        · exact ⟨_, _, rfl⟩
/-- an expression, with fuel enough -/
def rex (T : List Int32) (s : RS) : Bool × RS := (rR T 400 0 s).getD (false, s)
theorem rex_E {T : List Int32} {s : RS} (hT : T.length ≤ 40) (hp : s.1 ≤ T.length) : rR T 400 0 s = some (rex T s) := by
  obtain ⟨b, s', e⟩ := rR_some hT 400 0 s hp (by omega) (by simp; omega)
  unfold rex; rw [e]; rfl
def rstart (s : RS) : RS := (s.1, s.2.1, s.1, s.2.2.2)
def rknow (s : RS) (x : Int32) : RS := (s.1, s.2.1, s.2.2.1, x, s.2.2.2.2)
def rdef (s : RS) (x : Int32) : RS := (s.1, s.2.1, s.2.2.1, s.2.2.2.1, x, s.2.2.2.2.2)
def rchg (s : RS) (x : Int32) : RS := (s.1, s.2.1, s.2.2.1, s.2.2.2.1, s.2.2.2.2.1, x, s.2.2.2.2.2.2)
/-- what has a sign = or ! behind a name -/
def sgn (T : List Int32) (p : Nat) : Int32 := if isL (cat T p) = true then cat T (p + 1) else -1
/-- a statement behind its prefix -/
def rst2 (T : List Int32) (sg x : Int32) (s : RS) : Bool × RS :=
  if (rex T s).1 = true then (let s' := (rex T s).2
    if sg = 61 then (true, rknow (rdef (re s' 12 x) (s'.2.2.2.2.1 ||| (1 <<< (x &&& 31)))) (s'.2.2.2.1 ||| (1 <<< (x &&& 31))))
    else if v_126 s'.2.2.2.2.1 x = 0 then (true, rknow (ru (rchg (re s' 13 x) (s'.2.2.2.2.2.1 ||| (1 <<< (x &&& 31)))) (s'.2.2.2.2.2.2 ||| (1 <<< (x &&& 31)))) (s'.2.2.2.1 ||| (1 <<< (x &&& 31))))
    else (true, rknow (re s' 13 x) (s'.2.2.2.1 ||| (1 <<< (x &&& 31)))))
  else (false, (rex T s).2)
def rst (T : List Int32) (s : RS) : Bool × RS :=
  if sgn T s.1 = 61 then rst2 T 61 (cat T s.1 - 97) (ra (ra (rstart s)))
  else if sgn T s.1 = 33 then rst2 T 33 (cat T s.1 - 97) (re (ra (ra (rstart s))) 11 (cat T s.1 - 97))
  else ((rex T (rstart s)).1, re (rex T (rstart s)).2 14 0)
section R47
variable {T : List Int32} {q : Nat} {h : Hp} {s : RS}
theorem rs_start (H : rs T q h s) : rs T q (w_up h 17 3 (h 17 2)) (rstart s) := by
  obtain ⟨hq, ht, h0, h1, h2, hp2, h3, h4, h5, h6, h7, h8, h9, h10⟩ := H
  refine ⟨hq, tx_fr ht (by simp (disch := omega) only [w_up_q]) (by simp (disch := omega) only [w_up_ne]), ?_, ?_, ?_, hp2, ?_, ?_, ?_, h6, fun i hi => ?_, ?_, ?_, ?_⟩
  · rw [w_up_b (by decide)]; exact h0
  · rw [w_up_b (by decide)]; exact h1
  · rw [w_up_b (by decide)]; exact h2
  · rw [w_up_at]; exact h2
  · rw [w_up_b (by decide)]; exact h4
  · rw [w_up_q (by decide)]; exact h5
  · rw [w_up_q (by decide), w_up_q (by decide), w_up_q (by decide)]; exact h7 i hi
  · rw [w_up_q (by decide)]; exact h8
  · rw [w_up_q (by decide)]; exact h9
  · rw [w_up_q (by decide)]; exact h10
theorem rs_know {x : Int32} (H : rs T q h s) : rs T q (w_up h 17 4 x) (rknow s x) := by
  obtain ⟨hq, ht, h0, h1, h2, hp2, h3, h4, h5, h6, h7, h8, h9, h10⟩ := H
  refine ⟨hq, tx_fr ht (by simp (disch := omega) only [w_up_q]) (by simp (disch := omega) only [w_up_ne]), ?_, ?_, ?_, hp2, ?_, ?_, ?_, h6, fun i hi => ?_, ?_, ?_, ?_⟩
  · rw [w_up_b (by decide)]; exact h0
  · rw [w_up_b (by decide)]; exact h1
  · rw [w_up_b (by decide)]; exact h2
  · rw [w_up_b (by decide)]; exact h3
  · rw [w_up_at]; rfl
  · rw [w_up_q (by decide)]; exact h5
  · rw [w_up_q (by decide), w_up_q (by decide), w_up_q (by decide)]; exact h7 i hi
  · rw [w_up_q (by decide)]; exact h8
  · rw [w_up_q (by decide)]; exact h9
  · rw [w_up_q (by decide)]; exact h10
theorem rs_def {x : Int32} (H : rs T q h s) : rs T q (w_up h 24 5 x) (rdef s x) ∧ rfr h (w_up h 24 5 x) := by
  obtain ⟨hq, ht, h0, h1, h2, hp2, h3, h4, h5, h6, h7, h8, h9, h10⟩ := H
  refine ⟨⟨hq, tx_fr ht (by simp (disch := omega) only [w_up_q]) (by simp (disch := omega) only [w_up_ne]), ?_, ?_, ?_, hp2, ?_, ?_, ?_, h6, fun i hi => ?_, ?_, ?_, ?_⟩, w_fr_up (w_fr_refl _ _) (by unfold rdP; omega), w_up_b (by decide)⟩
  · rw [w_up_q (by decide)]; exact h0
  · rw [w_up_q (by decide)]; exact h1
  · rw [w_up_q (by decide)]; exact h2
  · rw [w_up_q (by decide)]; exact h3
  · rw [w_up_q (by decide)]; exact h4
  · rw [w_up_b (by decide)]; exact h5
  · rw [w_up_q (by decide), w_up_q (by decide), w_up_q (by decide)]; exact h7 i hi
  · rw [w_up_at]; rfl
  · rw [w_up_b (by decide)]; exact h9
  · rw [w_up_b (by decide)]; exact h10
theorem rs_chg {x : Int32} (H : rs T q h s) : rs T q (w_up h 24 6 x) (rchg s x) ∧ rfr h (w_up h 24 6 x) := by
  obtain ⟨hq, ht, h0, h1, h2, hp2, h3, h4, h5, h6, h7, h8, h9, h10⟩ := H
  refine ⟨⟨hq, tx_fr ht (by simp (disch := omega) only [w_up_q]) (by simp (disch := omega) only [w_up_ne]), ?_, ?_, ?_, hp2, ?_, ?_, ?_, h6, fun i hi => ?_, ?_, ?_, ?_⟩, w_fr_up (w_fr_refl _ _) (by unfold rdP; omega), w_up_b (by decide)⟩
  · rw [w_up_q (by decide)]; exact h0
  · rw [w_up_q (by decide)]; exact h1
  · rw [w_up_q (by decide)]; exact h2
  · rw [w_up_q (by decide)]; exact h3
  · rw [w_up_q (by decide)]; exact h4
  · rw [w_up_b (by decide)]; exact h5
  · rw [w_up_q (by decide), w_up_q (by decide), w_up_q (by decide)]; exact h7 i hi
  · rw [w_up_b (by decide)]; exact h8
  · rw [w_up_at]; rfl
  · rw [w_up_b (by decide)]; exact h10
theorem rs_code (H : rs T q h s) : h 24 5 = s.2.2.2.2.1 ∧ h 24 6 = s.2.2.2.2.2.1 ∧ h 24 7 = s.2.2.2.2.2.2 ∧ h 17 4 = s.2.2.2.1 ∧ h 17 2 = Int32.ofNat s.1 ∧ s.1 ≤ T.length ∧ T.length ≤ 40 := by
  obtain ⟨hq, ht, h0, h1, h2, hp2, h3, h4, h5, h6, h7, h8, h9, h10⟩ := H
  exact ⟨h8, h9, h10, h4, h2, hp2, ht.1⟩
theorem c_ex (H : rs T q h s) : ok (p_R w_R 42 0 h) (QQ T q h (rex T s).1 (rex T s).2) := by
  obtain ⟨-, -, -, -, -, hp, hT⟩ := rs_code H
  have e := rex_E hT hp
  have := (c_R 400 0 s (rex T s).1 (rex T s).2 e h H 0 w_R (Nat.zero_le _)).1 rfl (by unfold w_R; omega)
  exact this
theorem c_40b {sg x : Int32} (H : rs T q h s) (hsg : sg = 61 ∨ sg = 33) : ok (q_40_59 h sg x) (QQ T q h (rst2 T sg x s).1 (rst2 T sg x s).2) := by
  unfold q_40_59 rst2
  refine ok_bind (c_ex H) ?_
  rintro r ⟨r1, r2, r3⟩
  cases hb : (rex T s).1 with
  | false =>
    rw [hb] at r1
    refine ok_T (by rw [r1]; rfl) (ok_some ?_)
    rw [if_neg (by decide)]
    exact ⟨rfl, r2, r3⟩
  | true =>
    rw [hb] at r1
    refine ok_F (by rw [r1]; decide) ?_
    rw [if_pos rfl]
    dsimp only
    rcases hsg with rfl | rfl
    · refine ok_T rfl ?_
      rw [if_pos rfl]
      refine ok_gd (rs24 r2) ?_
      obtain ⟨h1, a1, a2, a3⟩ := c_add (k := 12) (d := x) r2
      refine ok_bE a1 (ok_gd (rs24 a2) (ok_let ?_))
      obtain ⟨d1, -⟩ := rs_code a2
      obtain ⟨b1, b2⟩ := rs_def (x := (rex T s).2.2.2.2.2.1 ||| (1 <<< (x &&& 31))) a2
      have d1' : h1 24 5 = (rex T s).2.2.2.2.2.1 := d1
      rw [d1']
      unfold q_40_95
      refine ok_let (ok_some ?_)
      obtain ⟨-, -, -, d4, -⟩ := rs_code b1
      have d4' : w_up h1 24 5 ((rex T s).2.2.2.2.2.1 ||| (1 <<< (x &&& 31))) 17 4 = (rex T s).2.2.2.2.1 := d4
      refine ⟨rfl, ?_, rfr_trans r3 (rfr_trans a3 (rfr_trans b2 rfr_17))⟩
      show rs T q (w_up (w_up h1 24 5 ((rex T s).2.2.2.2.2.1 ||| (1 <<< (x &&& 31)))) 17 4 _) _
      rw [d4']
      exact rs_know b1
    · refine ok_F (by decide) ?_
      rw [if_neg (by decide)]
      refine ok_gd (rs24 r2) ?_
      obtain ⟨h1, a1, a2, a3⟩ := c_add (k := 13) (d := x) r2
      refine ok_bE a1 ?_
      obtain ⟨d1, d2, d3, d4, -⟩ := rs_code a2
      have e1 : h1 24 5 = (rex T s).2.2.2.2.2.1 := d1
      unfold p_41
      by_cases hv : v_126 (rex T s).2.2.2.2.2.1 x = 0
      · rw [if_pos hv]
        have c1 := rs_chg (x := (rex T s).2.2.2.2.2.2.1 ||| (1 <<< (x &&& 31))) a2
        have c2 := rs_use (x := (rex T s).2.2.2.2.2.2.2 ||| (1 <<< (x &&& 31))) c1.1
        rw [rs24 a2]
        have e2 : h1 24 6 = (rex T s).2.2.2.2.2.2.1 := d2
        have e3 : w_up h1 24 6 ((rex T s).2.2.2.2.2.2.1 ||| (1 <<< (x &&& 31))) 24 7 = (rex T s).2.2.2.2.2.2.2 := (rs_code c1.1).2.2.1
        simp only [w_gd]
        rw [if_pos (by rw [e1]; exact hv)]
        refine ok_bE (a := w_up (w_up h1 24 6 ((rex T s).2.2.2.2.2.2.1 ||| (1 <<< (x &&& 31)))) 24 7 ((rex T s).2.2.2.2.2.2.2 ||| (1 <<< (x &&& 31)))) ?_ ?_
        · simp only [w_let]
          rw [e2, rs24 c1.1, e3]
        · unfold q_40_95
          refine ok_let (ok_some ⟨rfl, ?_, rfr_trans r3 (rfr_trans a3 (rfr_trans c1.2 (rfr_trans c2.2 rfr_17)))⟩)
          have e4 : w_up (w_up h1 24 6 ((rex T s).2.2.2.2.2.2.1 ||| (1 <<< (x &&& 31)))) 24 7 ((rex T s).2.2.2.2.2.2.2 ||| (1 <<< (x &&& 31))) 17 4 = (rex T s).2.2.2.2.1 := (rs_code c2.1).2.2.2.1
          show rs T q (w_up (w_up (w_up h1 24 6 ((rex T s).2.2.2.2.2.2.1 ||| (1 <<< (x &&& 31)))) 24 7 ((rex T s).2.2.2.2.2.2.2 ||| (1 <<< (x &&& 31)))) 17 4 _) _
          rw [e4]
          exact rs_know c2.1
      · rw [if_neg hv]
        rw [rs24 a2]
        simp only [w_gd]
        rw [if_neg (by rw [e1]; exact hv)]
        refine ok_bE rfl ?_
        unfold q_40_95
        have e4 : h1 17 4 = (rex T s).2.2.2.2.1 := d4
        refine ok_let (ok_some ⟨rfl, ?_, rfr_trans r3 (rfr_trans a3 rfr_17)⟩)
        show rs T q (w_up h1 17 4 _) _
        rw [e4]
        exact rs_know a2
theorem c_40 (H : rs T q h s) : ok (p_40 h) (QQ T q h (rst T s).1 (rst T s).2) := by
  unfold p_40
  refine ok_let ?_
  have H0 := rs_start H
  have f0 : rfr h (w_up h 17 3 (h 17 2)) := rfr_17
  generalize w_up h 17 3 (h 17 2) = g at *
  obtain ⟨e, g1, v1, g2, v3, g3⟩ := rs_at H0
  have e0 : (rstart s).1 = s.1 := rfl
  rw [e] at g1
  rw [e, g1, g2, v1, s_123, g3, v3, e0]
  simp only [w_gd]
  have pre : ∀ sg, (sg = 61 ∨ sg = 33) → isL (cat T s.1) = true → cat T (s.1 + 1) = sg → ok (q_40_40 g sg) (QQ T q h (if sg = 61 then rst2 T 61 (cat T s.1 - 97) (ra (ra (rstart s))) else rst2 T 33 (cat T s.1 - 97) (re (ra (ra (rstart s))) 11 (cat T s.1 - 97))).1 (if sg = 61 then rst2 T 61 (cat T s.1 - 97) (ra (ra (rstart s))) else rst2 T 33 (cat T s.1 - 97) (re (ra (ra (rstart s))) 11 (cat T s.1 - 97))).2) := by
    intro sg hsg hl hc
    unfold q_40_40
    rcases c_37 H0 with ⟨c3, h1, a1, a2, a3⟩ | ⟨c3, a1⟩
    · refine ok_bE a1 (ok_let ?_)
      have hlt : s.1 + 1 < T.length := by
        have hne : ¬ sg = -1 := by rcases hsg with rfl | rfl <;> decide
        exact cat_eq hc hne
      have a4 := rs_up (a := 0) a2 hlt
      have a5 : rfr h1 (w_up h1 17 2 ((h1 17 2) + 1)) := rfr_17
      generalize w_up h1 17 2 ((h1 17 2) + 1) = h2 at *
      dsimp only
      rcases hsg with rfl | rfl
      · refine ok_F (by decide) ?_
        rw [if_pos rfl]
        refine ok_mono (c_40b a4 (Or.inl rfl)) ?_
        intro r hr
        exact QQ_tr (rfr_trans f0 (rfr_trans a3 a5)) hr
      · refine ok_T rfl ?_
        rw [if_neg (by decide)]
        refine ok_gd (rs24 a4) ?_
        obtain ⟨h3, b1, b2, b3⟩ := c_add (k := 11) (d := cat T s.1 - 97) a4
        refine ok_bE b1 (ok_mono (c_40b b2 (Or.inr rfl)) ?_)
        intro r hr
        exact QQ_tr (rfr_trans f0 (rfr_trans a3 (rfr_trans a5 b3))) hr
    · have : isL (cat T s.1) = false := c3
      rw [hl] at this; cases this
  have plain : ok ((p_R w_R 42 0 g).bind fun vz23 => w_gd ((vz23.2 17 1) == 24) <| (p_10 vz23.2 24 14 0 (vz23.2 17 3)).bind fun vz25 => w_gd (w_bo vz23.1) <| some (vz23.1, vz25)) (QQ T q h (rex T (rstart s)).1 (re (rex T (rstart s)).2 14 0)) := by
    refine ok_bind (c_ex H0) ?_
    rintro r ⟨r1, r2, r3⟩
    refine ok_gd (rs24 r2) ?_
    obtain ⟨h1, a1, a2, a3⟩ := c_add (k := 14) (d := 0) r2
    exact ok_bE a1 (ok_gd (by rw [r1]; exact ofB_bo) (ok_some ⟨r1, a2, rfr_trans f0 (rfr_trans r3 a3)⟩))
  unfold rst sgn q_40_20
  cases hl : isL (cat T s.1) with
  | false =>
    refine ok_T rfl ?_
    simp only [Bool.false_eq_true, if_false]
    refine ok_F (by decide) (ok_F (by decide) ?_)
    rw [if_neg (by decide), if_neg (by decide)]
    exact plain
  | true =>
    refine ok_F (by decide) ?_
    simp only [if_true]
    by_cases c1 : cat T (s.1 + 1) = 61
    · refine ok_T c1 ?_
      rw [if_pos c1]
      have := pre _ (Or.inl c1) hl rfl
      rw [if_pos c1] at this
      exact this
    · refine ok_F c1 ?_
      rw [if_neg c1]
      by_cases c2 : cat T (s.1 + 1) = 33
      · refine ok_T c2 ?_
        rw [if_pos c2]
        have := pre _ (Or.inr c2) hl rfl
        rw [if_neg c1] at this
        exact this
      · refine ok_F c2 ?_
        rw [if_neg c2]
        exact plain
end R47
