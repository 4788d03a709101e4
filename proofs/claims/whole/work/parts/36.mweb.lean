/-! ===== the model's web: definers, changers, givers, needs ===== -/
/-- the model m has the same texts' sets and widgets as the class h -/
def MW (h m : Hp) (n nw : Nat) : Prop := n ≤ 16 ∧ nw ≤ 4 ∧ m 1076 2 = Int32.ofNat n ∧ m 1076 48 = Int32.ofNat nw ∧ (∀ c, c < n → m 1083 c = h (64 * c + 55) 5 ∧ m 1084 c = h (64 * c + 55) 6 ∧ m 1085 c = h (64 * c + 55) 7) ∧ (∀ w, w < nw → ∃ x, x < 26 ∧ h 5 w = Int32.ofNat x ∧ m 1112 w = Int32.ofNat (97 + x)) ∧ ∀ w w', w < nw → w' < nw → h 5 w = h 5 w' → w = w'
theorem s_162 {l : Nat} (hl : l < 26) : v_162 (Int32.ofNat (97 + l)) = 1 <<< (Int32.ofNat l &&& 31) := by
  unfold v_162
  have : Int32.ofNat (97 + l) - 97 = Int32.ofNat l := by
    have := u_subL (a := 97 + l) (n := 97) (by omega)
    rw [this]; congr 1; omega
  rw [this]
theorem u_bit {x : Int32} {l : Nat} (hl : l < 32) : (x &&& (1 <<< (Int32.ofNat l &&& 31)) = 0) ↔ ¬ bt x l = true := by
  rw [bt_0iff]
  constructor
  · intro h hb
    have := h l hl
    rw [bt_and, bt_one hl, hb] at this; simp at this
  · intro h i hi
    rw [bt_and, bt_one hl]
    by_cases e : i = l
    · subst e; simpa using h
    · simp [e]
theorem cnt_two {f : Nat → Bool} {i j : Nat} : ∀ n, i < j → j < n → f i = true → f j = true → 2 ≤ cnt f n := by
  intro n hij hj hi hj2
  have h1 : cnt f (i + 1) ≥ 1 := by simp only [cnt, hi, if_true]; omega
  have mono : ∀ a b, a ≤ b → cnt f a ≤ cnt f b := by
    intro a b hab
    induction hab with
    | refl => exact Nat.le_refl _
    | step _ ih => simp only [cnt]; omega
  have h2 := mono (i + 1) j (by omega)
  have h3 : cnt f (j + 1) ≥ 2 := by simp only [cnt, hj2, if_true]; omega
  have h4 := mono (j + 1) n hj
  omega
theorem cnt_pos {f : Nat → Bool} {i : Nat} : ∀ n, i < n → f i = true → 1 ≤ cnt f n := by
  intro n
  induction n with
  | zero => intro h; omega
  | succ n ih =>
    intro h hf
    simp only [cnt]
    by_cases e : i = n
    · subst e; rw [if_pos hf]; omega
    · have := ih (by omega) hf; omega
def oz (z : Int32) : Option Nat → Int32
  | none => z
  | some k => Int32.ofNat k
section M36
variable {h m : Hp} {n nw : Nat}
theorem mw_w (H : MW h m n nw) {l : Nat} (hl : l < 26) : lst (fun w => decide (m 1112 w = Int32.ofNat (97 + l))) nw = lst (fun w => decide (h 5 w = Int32.ofNat l)) nw := by
  refine lst_congr nw (fun w hw => ?_)
  obtain ⟨x, hx, e1, e2⟩ := H.2.2.2.2.2.1 w hw
  rw [e1, e2]
  simp only [u_inj (show 97 + x < 2147483648 by omega) (show 97 + l < 2147483648 by omega), u_inj (show x < 2147483648 by omega) (show l < 2147483648 by omega)]
  grind
theorem mw_d (H : MW h m n nw) {l k : Nat} (hl : l < 26) (hk : k < n) : decide (¬ (m 1083 k &&& v_162 (Int32.ofNat (97 + l))) = 0) = bt (h (64 * k + 55) 5) l := by
  rw [s_162 hl, (H.2.2.2.2.1 k hk).1]
  simp only [u_bit (show l < 32 by omega)]
  cases bt (h (64 * k + 55) 5) l <;> rfl
theorem mw_c (H : MW h m n nw) {l k : Nat} (hl : l < 26) (hk : k < n) : decide (¬ (m 1084 k &&& v_162 (Int32.ofNat (97 + l))) = 0) = bt (h (64 * k + 55) 6) l := by
  rw [s_162 hl, (H.2.2.2.2.1 k hk).2.1]
  simp only [u_bit (show l < 32 by omega)]
  cases bt (h (64 * k + 55) 6) l <;> rfl
/-- the widget that has the name l -/
def wof (h : Hp) (nw l : Nat) : Option Nat := lst (fun w => decide (h 5 w = Int32.ofNat l)) nw
theorem mw_cnt (H : MW h m n nw) {l : Nat} (hl : l < 26) : cnt (dfh h n nw l) 32 = (if wof h nw l = none then 0 else 1) + cnt (fun k => bt (h (64 * k + 55) 5) l) n := by
  obtain ⟨h16, h4, -, -, -, -, hdis⟩ := H
  have a1 : cnt (dfh h n nw l) 16 = cnt (fun k => bt (h (64 * k + 55) 5) l) n := by
    have e : ∀ k, n ≤ k → k ≤ 16 → cnt (dfh h n nw l) k = cnt (dfh h n nw l) n := by
      intro k hk
      induction hk with
      | refl => intro _; rfl
      | @step k hk ih =>
        intro h2
        simp only [cnt]
        have : dfh h n nw l k = false := by unfold dfh; grind
        rw [ih (by omega), this]; simp
    rw [e 16 h16 (Nat.le_refl 16)]
    refine cnt_congr n (fun i hi => ?_)
    unfold dfh; grind
  have a2 : cnt (fun i => dfh h n nw l (16 + i)) 16 = (if wof h nw l = none then 0 else 1) := by
    have e0 : ∀ i, i < 16 → dfh h n nw l (16 + i) = (decide (i < nw) && decide (h 5 i = Int32.ofNat l)) := by
      intro i hi; unfold dfh
      rw [show 16 + i - 16 = i by omega]
      grind
    rw [cnt_congr 16 e0]
    unfold wof
    cases hw : lst (fun w => decide (h 5 w = Int32.ofNat l)) nw with
    | none =>
      have := lst_none nw hw
      simp only [if_true]
      have z : ∀ k, cnt (fun i => decide (i < nw) && decide (h 5 i = Int32.ofNat l)) k = 0 := by
        intro k
        induction k with
        | zero => rfl
        | succ k ih => grind [cnt]
      exact z 16
    | some w =>
      obtain ⟨hw1, hw2⟩ := lst_lt nw hw
      have hw2' : h 5 w = Int32.ofNat l := by simpa using hw2
      have z : ∀ k, cnt (fun i => decide (i < nw) && decide (h 5 i = Int32.ofNat l)) k = if w < k then 1 else 0 := by
        intro k
        induction k with
        | zero => rfl
        | succ k ih =>
          simp only [cnt, ih]
          by_cases hk : k = w
          · subst hk; simp [hw1, hw2']
          · have : (decide (k < nw) && decide (h 5 k = Int32.ofNat l)) = false := by
              by_cases h1 : k < nw
              · have : ¬ h 5 k = Int32.ofNat l := fun e => hk (hdis k w h1 hw1 (e.trans hw2'.symm))
                simp [this]
              · simp [h1]
            simp only [this, Bool.false_eq_true, if_false]
            split <;> split <;> omega
      rw [z 16, if_pos (by omega)]; simp
  rw [show (32 : Nat) = 16 + 16 by decide, cnt_split, a1, a2]; omega
theorem m_179 (H : MW h m n nw) {l : Nat} (hl : l < 26) : p_179 m (Int32.ofNat (97 + l)) = some (Int32.ofNat (cnt (dfh h n nw l) 32)) := by
  rw [s_179 H.2.2.1 H.1 H.2.2.2.1 H.2.1, mw_w H hl, cnt_congr n (fun k hk => mw_d H hl hk), mw_cnt H hl]
  rfl
theorem m_180 (H : MW h m n nw) {l b : Nat} (hl : l < 26) (hb : b ≤ n) : p_180 m (Int32.ofNat (97 + l)) (Int32.ofNat b) = some (oi (lst (fun k => bt (h (64 * k + 55) 6) l) b)) := by
  rw [s_180 (by have := H.1; omega), lst_congr b (fun k hk => mw_c H hl (by omega))]
theorem m_181 (H : MW h m n nw) {l : Nat} (hl : l < 26) : ∃ r, p_181 m (Int32.ofNat (97 + l)) = some r ∧ ((r = -1 ∧ ∀ j, dfh h n nw l j = false) ∨ (r = -2 ∧ 2 ≤ cnt (dfh h n nw l) 32) ∨ ∃ i, i < 20 ∧ r = Int32.ofNat i ∧ ∀ j, dfh h n nw l j = decide (j = i)) := by
  have hz : ∀ j, 32 ≤ j → dfh h n nw l j = false := fun j hj => dfh_lt H.1 H.2.1 (by omega)
  unfold p_181
  rw [m_179 H hl]
  simp only [Option.bind_some, q_181_9]
  have hle := cnt_le (dfh h n nw l) 32
  by_cases c0 : cnt (dfh h n nw l) 32 = 0
  · rw [c0]
    refine ⟨-1, rfl, Or.inl ⟨rfl, fun j => ?_⟩⟩
    by_cases hj : j < 32
    · exact cnt_0 32 c0 j hj
    · exact hz j (by omega)
  by_cases c1 : cnt (dfh h n nw l) 32 = 1
  · rw [c1]
    rw [if_pos (by rfl), s_170 H.2.2.2.1 H.2.1, mw_w H hl]
    simp only [Option.bind_some]
    have hsum := mw_cnt H hl
    rw [c1] at hsum
    have hloop : ∀ z : Int32, w_lp (fun (s : Int32 × Int32) => l_181_21 m (Int32.ofNat (97 + l)) s.1 s.2) w_N (z, 0) = some (oz z (lst (fun k => bt (h (64 * k + 55) 5) l) n)) := by
      intro z
      have hd : ∀ k, k < n → ((m 1083 k &&& v_162 (Int32.ofNat (97 + l))) = 0 ↔ ¬ bt (h (64 * k + 55) 5) l = true) := by
        intro k hk
        rw [← mw_d H hl hk]; simp
      refine u_for (N := w_N) (fun i => (oz z (lst (fun k => bt (h (64 * k + 55) 5) l) i), Int32.ofNat i)) n (by have := H.1; unfold w_N; omega) ?_ ?_
      · intro i hi
        have := H.1; have hn := H.2.2.1
        have hdi := hd i hi
        grind [l_181_21, u_lt, u_cl, u_ix, u_addL, w_gd, lst, oz]
      · have := H.1; have hn := H.2.2.1
        grind [l_181_21, u_lt, u_cl, u_ix, u_addL, w_gd, lst]
    rw [hloop]
    have uniq : ∀ i, i < 32 → dfh h n nw l i = true → ∀ j, dfh h n nw l j = decide (j = i) := by
      intro i hi hf j
      by_cases e : j = i
      · subst e; rw [hf]; simp
      · by_cases hj : j < 32
        · cases hd : dfh h n nw l j with
          | false => simp [e]
          | true =>
            exfalso
            rcases Nat.lt_or_gt_of_ne e with h1 | h1
            · have := cnt_two 32 h1 hi hd hf; omega
            · have := cnt_two 32 h1 hj hf hd; omega
        · rw [hz j (by omega)]; simp [e]
    have h16 := H.1; have h4 := H.2.1
    cases hk : lst (fun k => bt (h (64 * k + 55) 5) l) n with
    | some k =>
      obtain ⟨k1, k2⟩ := lst_lt n hk
      refine ⟨_, rfl, Or.inr (Or.inr ⟨k, by omega, rfl, uniq k (by omega) (by unfold dfh; simp [k1, k2])⟩)⟩
    | none =>
      cases hw : wof h nw l with
      | none =>
        exfalso
        rw [hw] at hsum
        have : 1 ≤ cnt (fun k => bt (h (64 * k + 55) 5) l) n := by simp at hsum; omega
        have z : ∀ k, k ≤ n → cnt (fun k => bt (h (64 * k + 55) 5) l) k = 0 := by
          intro k
          induction k with
          | zero => intro _; rfl
          | succ k ih => intro hk2; have := lst_none n hk k (by omega); simp only [cnt, ih (by omega), this]; rfl
        rw [z n (Nat.le_refl n)] at this; omega
      | some w =>
        have hw' : lst (fun w => decide (h 5 w = Int32.ofNat l)) nw = some w := hw
        obtain ⟨w1, w2⟩ := lst_lt nw hw'
        have w2' : h 5 w = Int32.ofNat l := by simpa using w2
        rw [hw']
        have e16 : (16 : Int32) + Int32.ofNat w = Int32.ofNat (16 + w) := u_add 16 w
        refine ⟨_, rfl, Or.inr (Or.inr ⟨16 + w, by omega, e16, uniq (16 + w) (by omega) ?_⟩)⟩
        unfold dfh
        rw [show 16 + w - 16 = w by omega, w2']; simp; omega
  · rw [if_neg]
    · refine ⟨_, rfl, Or.inr (Or.inl ⟨?_, by omega⟩)⟩
      rw [if_neg]
      intro e
      exact c0 ((u_eqL (by omega) (by decide)).mp e)
    · intro e
      exact c1 ((u_eqL (by omega) (by decide)).mp e)
/-- from where the cell c has the name l, as the model tells it -/
theorem m_182 (H : MW h m n nw) {c l : Nat} (hc : c < n) (hl : l < 26) : ∃ r, p_182 m (Int32.ofNat c) (Int32.ofNat (97 + l)) = some r ∧ (match lst (fun k => chh h n l k && (!chh h n l c || decide (k < c))) 16 with
    | some k => r = Int32.ofNat k
    | none => (r = -1 ∧ ∀ j, dfh h n nw l j = false) ∨ (r = -2 ∧ 2 ≤ cnt (dfh h n nw l) 32) ∨ ∃ i, i < 20 ∧ r = Int32.ofNat i ∧ ∀ j, dfh h n nw l j = decide (j = i)) := by
  have h16 := H.1
  have hcc : chh h n l c = bt (h (64 * c + 55) 6) l := by unfold chh; simp [hc]
  have eL : lst (fun k => chh h n l k && (!chh h n l c || decide (k < c))) 16 = lst (fun k => bt (h (64 * k + 55) 6) l) (if bt (h (64 * c + 55) 6) l = true then c else n) := by
    rw [hcc]
    split
    · rename_i hb
      rw [lst_ext (n := c) 16 (by omega) (fun i h1 h2 => by rw [hb]; unfold chh; grind)]
      exact lst_congr c (fun i hi => by rw [hb]; unfold chh; grind)
    · rename_i hb
      rw [lst_ext (n := n) 16 (by omega) (fun i h1 h2 => by unfold chh; grind)]
      exact lst_congr n (fun i hi => by unfold chh; grind)
  have e1 := mw_c H hl hc
  rw [eL]
  unfold p_182
  simp (disch := omega) only [u_ix, u_cl, w_gd, q_182_11, q_182_20]
  have e2 : ((m 1084 c &&& v_162 (Int32.ofNat (97 + l))) = 0) ↔ ¬ bt (h (64 * c + 55) 6) l = true := by
    rw [← e1]; simp
  have e3 : (if (if (m 1084 c &&& v_162 (Int32.ofNat (97 + l))) = 0 then (0 : Int32) else 1) = 0 then m 1076 2 else Int32.ofNat c) = Int32.ofNat (if bt (h (64 * c + 55) 6) l = true then c else n) := by
    rw [H.2.2.1]
    cases hb : bt (h (64 * c + 55) 6) l with
    | true => rw [if_neg (fun e => e2.mp e hb)]; rfl
    | false => rw [if_pos (e2.mpr (by simp [hb]))]; rfl
  rw [e3, m_180 H hl (by split <;> omega)]
  simp only [Option.bind_some]
  generalize hb : (if bt (h (64 * c + 55) 6) l = true then c else n) = b
  have hbn : b ≤ n := by rw [← hb]; split <;> omega
  have hm1 := oi_m1 (o := lst (fun k => bt (h (64 * k + 55) 6) l) b) (n := b) (fun k hk => (lst_lt b hk).1) (by omega)
  cases hk : lst (fun k => bt (h (64 * k + 55) 6) l) b with
  | some k =>
    rw [hk] at hm1
    rw [if_neg (fun e => by cases hm1.mp e)]
    exact ⟨_, rfl, rfl⟩
  | none =>
    rw [hk] at hm1
    rw [if_pos (hm1.mpr rfl)]
    obtain ⟨r, hr, hq⟩ := m_181 H hl
    rw [hr]
    exact ⟨r, rfl, hq⟩
end M36
