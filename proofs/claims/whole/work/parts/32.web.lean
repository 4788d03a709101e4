/-! ===== the class's web: noteName, weave's loops, the closure ===== -/
theorem dfh_lt {h : Hp} {n nw x j : Nat} (h16 : n ≤ 16) (h4 : nw ≤ 4) (hj : 20 ≤ j) : dfh h n nw x j = false := by
  unfold dfh; grind
theorem chh_lt {h : Hp} {n x j : Nat} (h16 : n ≤ 16) (hj : 16 ≤ j) : chh h n x j = false := by
  unfold chh; grind
theorem s_79 {h : Hp} {x n nw : Nat} (hn : h 11 8 = Int32.ofNat n) (h16 : n ≤ 16) (hw : h 4 7 = Int32.ofNat nw) (h4 : nw ≤ 4) (hx : x < 26) : ∃ a b t, p_79 h (Int32.ofNat x) = some (w_up (w_up (w_up h 12 x a) 13 x b) 11 6 t) ∧ (∀ j, bt a j = dfh h n nw x j) ∧ (∀ j, bt b j = chh h n x j) ∧ ∀ j, bt t j = (bt (h 11 6) j || (decide (1 < cnt (dfh h n nw x) 32) && (dfh h n nw x j && decide (j < 16)))) := by
  unfold p_79
  simp (disch := omega) only [u_ix, u_cl, w_gd, w_let]
  rw [s_79a hn h16 hx]
  simp only [Option.bind_some]
  generalize hA : sbo (fun k => bt (h (64 * k + 55) 5) x) 0 n = A
  generalize hB : sbo (fun k => bt (h (64 * k + 55) 6) x) 0 n = B
  rw [w_up_cm (by decide)]
  rw [s_79b (nw := nw) (by rw [w_up_q (by decide)]; exact hw) h4 hx]
  simp (disch := omega) only [Option.bind_some, w_up_q, w_up_at, s_267]
  generalize ha : (A ||| sbo (fun k => decide (h 5 k = Int32.ofNat x)) 16 nw) = a
  have bA : ∀ j, bt a j = dfh h n nw x j := by
    intro j
    rw [← ha, ← hA, bt_or, bt_sbo _ _ (by omega), bt_sbo _ _ (by omega)]
    unfold dfh; grind
  have bB : ∀ j, bt B j = chh h n x j := by
    intro j
    rw [← hB, bt_sbo _ _ (by omega)]
    unfold chh; grind
  have e0 : cnt (bt a) 32 = cnt (dfh h n nw x) 32 := cnt_congr 32 (fun i _ => bA i)
  rw [e0]
  have hle := cnt_le (dfh h n nw x) 32
  by_cases h1 : cnt (dfh h n nw x) 32 ≤ 1
  · rw [if_pos ((u_leL (by omega) (by decide)).mpr h1)]
    refine ⟨a, B, h 11 6, ?_, bA, bB, fun j => ?_⟩
    · refine congrArg some ?_
      rw [w_up_cm (q := 13) (q' := 12) (by decide)]
      funext z c; grind [w_upD]
    · rw [decide_eq_false (by omega : ¬ 1 < _)]; simp
  · rw [if_neg (fun e => h1 ((u_leL (by omega) (by decide)).mp e))]
    refine ⟨a, B, h 11 6 ||| (a &&& 65535), ?_, bA, bB, fun j => ?_⟩
    · refine congrArg some ?_
      rw [w_up_cm (q := 13) (q' := 12) (by decide)]
    · rw [bt_or, bt_and, bA, u_all, decide_eq_true (by omega : 1 < _)]; simp
/-- what the web's rows are -/
def wbP (q : Nat) : Prop := 11 ≤ q ∧ q ≤ 16
theorem dfh_fr {h h' : Hp} (hf : w_fr wbP h h') {n nw x j : Nat} : dfh h' n nw x j = dfh h n nw x j := by
  unfold dfh
  rw [hf (64 * j + 55) (by unfold wbP; omega), hf 5 (by unfold wbP; omega)]
theorem chh_fr {h h' : Hp} (hf : w_fr wbP h h') {n x j : Nat} : chh h' n x j = chh h n x j := by
  unfold chh
  rw [hf (64 * j + 55) (by unfold wbP; omega)]
/-- the cells that are TWICE by the first names -/
def twh (h : Hp) (n nw : Nat) (m j : Nat) : Bool := anyb (fun x => decide (1 < cnt (dfh h n nw x) 32) && (dfh h n nw x j && decide (j < 16))) m
theorem s_78a {h : Hp} {n nw : Nat} (hn : h 11 8 = Int32.ofNat n) (h16 : n ≤ 16) (hw : h 4 7 = Int32.ofNat nw) (h4 : nw ≤ 4) (h0 : h 11 6 = 0) : ok (w_lp (fun (s : Int32 × Hp) => l_78_10 s.1 s.2) w_N (0, h)) (fun h' => w_fr (fun q => q = 11 ∨ q = 12 ∨ q = 13) h h' ∧ (∀ b, b ≠ 6 → h' 11 b = h 11 b) ∧ (∀ x, x < 26 → (∀ j, bt (h' 12 x) j = dfh h n nw x j) ∧ (∀ j, bt (h' 13 x) j = chh h n x j)) ∧ ∀ j, bt (h' 11 6) j = twh h n nw 26 j) := by
  refine ok_for (fun i s => s.1 = Int32.ofNat i ∧ w_fr (fun q => q = 11 ∨ q = 12 ∨ q = 13) h s.2 ∧ (∀ b, b ≠ 6 → s.2 11 b = h 11 b) ∧ (∀ x, x < i → (∀ j, bt (s.2 12 x) j = dfh h n nw x j) ∧ (∀ j, bt (s.2 13 x) j = chh h n x j)) ∧ ∀ j, bt (s.2 11 6) j = twh h n nw i j) 26 ⟨rfl, w_fr_refl _ _, fun _ _ => rfl, fun x hx => by omega, fun j => by show bt (h 11 6) j = _; rw [h0, bt_zero]; rfl⟩ (by decide) ?_ ?_
  · rintro i ⟨i', g⟩ hi ⟨e, hf, hb, hx, ht⟩
    simp only at e hf hb hx ht
    subst e
    have hfw : w_fr wbP h g := w_fr_mono hf (fun q hq => by unfold wbP; omega)
    obtain ⟨a, b, t, hp, ha, hbb, htt⟩ := s_79 (h := g) (x := i) (n := n) (nw := nw) (by rw [hb 8 (by decide)]; exact hn) h16 (by rw [hf 4 (by omega)]; exact hw) h4 hi
    simp only [l_78_10]
    refine ok_T ((u_ltL (by omega) (by decide)).mpr hi) (ok_bE hp (ok_some ⟨u_S i, ?_, ?_, ?_, ?_⟩))
    · exact w_fr_up (w_fr_up (w_fr_up hf (by omega)) (by omega)) (by omega)
    · intro c hc
      dsimp only
      rw [w_up_b hc, w_up_q (by decide), w_up_q (by decide)]; exact hb c hc
    · intro x hx2
      refine ⟨fun j => ?_, fun j => ?_⟩ <;> dsimp only
      · rw [w_up_q (by decide), w_up_q (by decide)]
        by_cases hxi : x = i
        · subst hxi; rw [w_up_at, ha, dfh_fr hfw]
        · rw [w_up_b hxi]; exact (hx x (by omega)).1 j
      · rw [w_up_q (by decide)]
        by_cases hxi : x = i
        · subst hxi; rw [w_up_at, hbb, chh_fr hfw]
        · rw [w_up_b hxi, w_up_q (by decide)]; exact (hx x (by omega)).2 j
    · intro j
      have ec : cnt (dfh g n nw i) 32 = cnt (dfh h n nw i) 32 := cnt_congr 32 (fun k _ => dfh_fr hfw)
      dsimp only
      rw [w_up_at, htt, ht, ec, dfh_fr hfw]
      rfl
  · rintro ⟨i', g⟩ ⟨e, hf, hb, hx, ht⟩
    simp only at e hf hb hx ht
    subst e
    simp only [l_78_10]
    exact ok_F (by decide) (ok_some ⟨hf, hb, hx, ht⟩)
/-- which the cell c needs -/
def ndh (h : Hp) (n nw c j : Nat) : Bool := anyb (fun x => bt (h (64 * c + 55) 7) x && gvb (dfh h n nw x) (chh h n x) c j) 26
def ndc (h : Hp) (n nw c j : Nat) : Bool := ndh h n nw c j && decide (j < 16)
theorem s_78b {h g : Hp} {n nw : Nat} (hn : g 11 8 = Int32.ofNat n) (h16 : n ≤ 16) (hf : w_fr wbP h g) (hx : ∀ x, x < 26 → (∀ j, bt (g 12 x) j = dfh h n nw x j) ∧ (∀ j, bt (g 13 x) j = chh h n x j)) : ok (w_lp (fun (s : Int32 × Hp) => l_78_22 s.1 s.2) w_N (0, g)) (fun h' => w_fr (fun q => q = 14 ∨ q = 15) g h' ∧ ∀ c, c < n → (∀ j, j < 32 → bt (h' 14 c) j = ndh h n nw c j) ∧ (∀ j, j < 32 → bt (h' 15 c) j = ndc h n nw c j)) := by
  refine ok_for (fun i s => s.1 = Int32.ofNat i ∧ w_fr (fun q => q = 14 ∨ q = 15) g s.2 ∧ ∀ c, c < i → (∀ j, j < 32 → bt (s.2 14 c) j = ndh h n nw c j) ∧ (∀ j, j < 32 → bt (s.2 15 c) j = ndc h n nw c j)) n ⟨rfl, w_fr_refl _ _, fun c hc => by omega⟩ (by unfold w_N; omega) ?_ ?_
  · rintro i ⟨i', k⟩ hi ⟨e, hk, hc⟩
    simp only at e hk hc
    subst e
    have e1 : k (64 * i + 55) 7 = h (64 * i + 55) 7 := by
      rw [hk _ (by omega), hf _ (by unfold wbP; omega)]
    obtain ⟨r, hr, hrb⟩ := s_80 (h := k) (c := i) (u := h (64 * i + 55) 7) (df := dfh h n nw) (ch := chh h n) (by omega) (fun x hx2 j => by rw [hk 12 (by omega)]; exact (hx x hx2).1 j) (fun x hx2 j => by rw [hk 13 (by omega)]; exact (hx x hx2).2 j) (fun x j hj => chh_lt h16 hj)
    simp only [l_78_22]
    refine ok_T ?_ ?_
    · rw [hk 11 (by omega), hn]; exact (u_lt (by omega) (by omega)).mpr hi
    simp (disch := omega) only [u_ix, u_cl, w_gd, w_let, e1]
    refine ok_bE hr (ok_some ⟨u_S i, ?_, ?_⟩)
    · exact w_fr_up (w_fr_up hk (by omega)) (by omega)
    · intro c hci
      refine ⟨fun j hj => ?_, fun j hj => ?_⟩ <;> dsimp only
      · rw [w_up_q (by decide)]
        by_cases h1 : c = i
        · subst h1; rw [w_up_at, hrb j hj]; rfl
        · rw [w_up_b h1]; exact (hc c (by omega)).1 j hj
      · by_cases h1 : c = i
        · subst h1; rw [w_up_at, bt_and, w_up_at, hrb j hj, u_all]; rfl
        · rw [w_up_b h1, w_up_q (by decide)]; exact (hc c (by omega)).2 j hj
  · rintro ⟨i', k⟩ ⟨e, hk, hc⟩
    simp only at e hk hc
    subst e
    simp only [l_78_22]
    refine ok_F ?_ (ok_some ⟨hk, hc⟩)
    rw [hk 11 (by omega), hn, u_lt (by omega) (by omega)]; omega
