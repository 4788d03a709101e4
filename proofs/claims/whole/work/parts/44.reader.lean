/-! ===== reading: the class's reader, its small steps ===== -/
abbrev ST : Type := Int32 × Int32 × Int32
/-- place, code, start, known, defines, changes, uses -/
abbrev RS : Type := Nat × List ST × Nat × Int32 × Int32 × Int32 × Int32
def cat (T : List Int32) (p : Nat) : Int32 := if p < T.length then T.getD p 0 else -1
def ra (s : RS) : RS := (s.1 + 1, s.2)
def re (s : RS) (k d : Int32) : RS := (s.1, (if s.2.1.length < 41 then s.2.1 ++ [(k, d, Int32.ofNat s.2.2.1)] else s.2.1), s.2.2)
def ru (s : RS) (x : Int32) : RS := (s.1, s.2.1, s.2.2.1, s.2.2.2.1, s.2.2.2.2.1, s.2.2.2.2.2.1, x)
def rdP (q : Nat) : Prop := q = 17 ∨ (24 ≤ q ∧ q ≤ 27)
def isD (x : Int32) : Bool := decide (48 ≤ x) && decide (x ≤ 57)
def isL (x : Int32) : Bool := decide (97 ≤ x) && decide (x ≤ 122)
/-- the heap's reader stands at s in the text T of the hand at q -/
def rs (T : List Int32) (q : Nat) (h : Hp) (s : RS) : Prop :=
  (q = 48 ∨ q = 50) ∧ tx h q T ∧ h 17 0 = Int32.ofNat q ∧ h 17 1 = 24 ∧ h 17 2 = Int32.ofNat s.1 ∧ s.1 ≤ T.length ∧ h 17 3 = Int32.ofNat s.2.2.1 ∧ h 17 4 = s.2.2.2.1 ∧ h 24 3 = Int32.ofNat s.2.1.length ∧ s.2.1.length ≤ 41 ∧ (∀ i, i < s.2.1.length → h 25 i = (s.2.1.getD i (0, 0, 0)).1 ∧ h 26 i = (s.2.1.getD i (0, 0, 0)).2.1 ∧ h 27 i = (s.2.1.getD i (0, 0, 0)).2.2) ∧ h 24 5 = s.2.2.2.2.1 ∧ h 24 6 = s.2.2.2.2.2.1 ∧ h 24 7 = s.2.2.2.2.2.2
theorem s_123 {x : Int32} : v_123 x = ofB (isL x) := by
  unfold v_123 isL
  by_cases h1 : x < 97
  · have : ¬ 97 ≤ x := by grind
    simp [h1, this, ofB]
  · have : 97 ≤ x := by grind
    by_cases h2 : x ≤ 122 <;> simp [h1, this, h2, ofB]
theorem s_124 {x : Int32} : v_124 x = ofB (isD x) := by
  unfold v_124 isD
  by_cases h1 : x < 48
  · have : ¬ 48 ≤ x := by grind
    simp [h1, this, ofB]
  · have : 48 ≤ x := by grind
    by_cases h2 : x ≤ 57 <;> simp [h1, this, h2, ofB]
theorem s_58 {h : Hp} {q p : Nat} {T : List Int32} (H : tx h q T) (hp : p < 1000) : v_58 h q (Int32.ofNat p) = cat T p ∧ g_58 h q (Int32.ofNat p) = true := by
  obtain ⟨h40, hl, hi, -⟩ := H
  unfold v_58 g_58 cat
  simp (disch := omega) only [u_lt0, if_false, hl, u_lt]
  by_cases h1 : p < T.length
  · simp (disch := omega) only [h1, if_true, u_cl, u_ix, hi p h1]
    exact ⟨trivial, trivial⟩
  · simp only [h1, if_false]; exact ⟨trivial, trivial⟩
section R44
variable {T : List Int32} {q : Nat} {h : Hp} {s : RS}
theorem rs_at (H : rs T q h s) : (h 17 0).toNatClampNeg = q ∧ (w_tag (h 17 0).toNatClampNeg == 7 && 7 != 999) = true ∧ v_58 h q (h 17 2) = cat T s.1 ∧ g_58 h q (h 17 2) = true ∧ v_58 h q ((h 17 2) + 1) = cat T (s.1 + 1) ∧ g_58 h q ((h 17 2) + 1) = true := by
  obtain ⟨hq, ht, h0, h1, h2, hp, -⟩ := H
  have hT := ht.1
  have e : (h 17 0).toNatClampNeg = q := by rw [h0, u_cl (by omega)]
  have a := s_58 (p := s.1) ht (by omega)
  have b := s_58 (p := s.1 + 1) ht (by omega)
  refine ⟨e, ?_, ?_, ?_, ?_, ?_⟩
  · rw [e]; rcases hq with rfl | rfl <;> decide +kernel
  · rw [h2]; exact a.1
  · rw [h2]; exact a.2
  · rw [h2, u_S]; exact b.1
  · rw [h2, u_S]; exact b.2
theorem cat_lt {x : Int32} (h : cat T s.1 = x) (hx : ¬ x = -1) : s.1 < T.length := by
  unfold cat at h
  by_cases h1 : s.1 < T.length
  · exact h1
  · rw [if_neg h1] at h; exact absurd h.symm hx
theorem rs_up {a : Int32} (H : rs T q h s) (hp : s.1 < T.length) : rs T q (w_up h 17 2 ((h 17 2) + 1)) (ra s) := by
  obtain ⟨hq, ht, h0, h1, h2, hp2, h3, h4, h5, h6, h7, h8, h9, h10⟩ := H
  have n17 : q ≠ 17 := by omega
  have n17' : q + 1 ≠ 17 := by omega
  refine ⟨hq, tx_fr ht (by rw [w_up_q n17]) (w_up_ne n17'), ?_, ?_, ?_, hp, ?_, ?_, ?_, h6, fun i hi => ?_, ?_, ?_, ?_⟩
  · rw [w_up_b (by decide)]; exact h0
  · rw [w_up_b (by decide)]; exact h1
  · rw [w_up_at, h2, u_S]; rfl
  · rw [w_up_b (by decide)]; exact h3
  · rw [w_up_b (by decide)]; exact h4
  · rw [w_up_q (by decide)]; exact h5
  · rw [w_up_q (by decide), w_up_q (by decide), w_up_q (by decide)]; exact h7 i hi
  · rw [w_up_q (by decide)]; exact h8
  · rw [w_up_q (by decide)]; exact h9
  · rw [w_up_q (by decide)]; exact h10
/-- what a step of the reader leaves: the rows of the reader and its code alone, not the language -/
def rfr (h h' : Hp) : Prop := w_fr rdP h h' ∧ h' 24 4 = h 24 4
theorem rfr_refl : rfr h h := ⟨w_fr_refl _ _, rfl⟩
theorem rfr_trans {a b c : Hp} (x : rfr a b) (y : rfr b c) : rfr a c := ⟨w_fr_trans x.1 y.1, y.2.trans x.2⟩
theorem rfr_17 {b : Nat} {x : Int32} : rfr h (w_up h 17 b x) := ⟨w_fr_up (w_fr_refl _ _) (Or.inl rfl), w_up_q (by decide)⟩
theorem c_skip {x : Int32} (H : rs T q h s) (hx : ¬ x = -1) : (cat T s.1 = x ∧ ∃ h', p_36 h x = some (1, h') ∧ rs T q h' (ra s) ∧ rfr h h') ∨ (¬ cat T s.1 = x ∧ p_36 h x = some (0, h)) := by
  obtain ⟨e, g1, v1, g2, -, -⟩ := rs_at H
  unfold p_36
  rw [g1, e, g2, v1]
  simp only [w_gd, w_let]
  by_cases hc : cat T s.1 = x
  · left
    rw [if_pos hc]
    exact ⟨hc, _, rfl, rs_up (a := 0) H (cat_lt hc hx), rfr_17⟩
  · right
    rw [if_neg hc]
    exact ⟨hc, rfl⟩
theorem c_add {k d : Int32} (H : rs T q h s) : ∃ h', p_10 h 24 k d (h 17 3) = some h' ∧ rs T q h' (re s k d) ∧ rfr h h' := by
  obtain ⟨hq, ht, h0, h1, h2, hp2, h3, h4, h5, h6, h7, h8, h9, h10⟩ := H
  unfold p_10 re
  by_cases hl : s.2.1.length < 41
  · rw [if_pos (by rw [h5]; exact (u_ltL (by omega) (by decide)).mpr hl)]
    rw [if_pos hl]
    simp (disch := omega) only [h5, u_ix, u_cl, w_gd, w_let, w_up_q, w_up_at, u_S]
    refine ⟨_, rfl, ?_, ?_⟩
    · refine ⟨hq, tx_fr ht (by simp (disch := omega) only [w_up_q]) (by simp (disch := omega) only [w_up_ne]), ?_, ?_, ?_, hp2, ?_, ?_, ?_, ?_, fun i hi => ?_, ?_, ?_, ?_⟩
      · simp (disch := omega) only [w_up_q]; exact h0
      · simp (disch := omega) only [w_up_q]; exact h1
      · simp (disch := omega) only [w_up_q]; exact h2
      · simp (disch := omega) only [w_up_q]; exact h3
      · simp (disch := omega) only [w_up_q]; exact h4
      · rw [w_up_at]; simp
      · simp; omega
      · simp (disch := omega) only [w_up_q]
        by_cases e : i = s.2.1.length
        · subst e
          simp only [w_up_at]
          simp [h3]
        · have hi2 : i < s.2.1.length := by simp at hi; omega
          have := h7 i hi2
          simp (disch := omega) only [w_up_q, w_up_b]
          simpa [List.getElem?_append, hi2] using this
      · simp (disch := omega) only [w_up_q, w_up_b]; exact h8
      · simp (disch := omega) only [w_up_q, w_up_b]; exact h9
      · simp (disch := omega) only [w_up_q, w_up_b]; exact h10
    · refine ⟨?_, ?_⟩
      · exact w_fr_up (w_fr_up (w_fr_up (w_fr_up (w_fr_refl _ _) (by unfold rdP; omega)) (by unfold rdP; omega)) (by unfold rdP; omega)) (by unfold rdP; omega)
      · simp (disch := omega) only [w_up_q, w_up_b]
  · rw [if_neg (by rw [h5]; exact fun e => hl ((u_ltL (by omega) (by decide)).mp e)), if_neg hl]
    exact ⟨h, rfl, ⟨hq, ht, h0, h1, h2, hp2, h3, h4, h5, h6, h7, h8, h9, h10⟩, rfr_refl⟩
end R44
/-! the parts of the grammar as a function -/
def dgs (T : List Int32) : Nat → Nat → Int32 → Int32 × Nat
  | 0, p, n => (n, p)
  | k + 1, p, n => if isD (cat T p) = true then dgs T k (p + 1) (((if n < 0 then 0 else n) * 10 + cat T p) - 48) else (n, p)
/-- a simple part -/
def rsp (T : List Int32) (s : RS) : Bool × RS :=
  if isD (cat T s.1) = true then (true, re ((dgs T 6 s.1 (-1)).2, s.2) 0 (dgs T 6 s.1 (-1)).1)
  else if cat T s.1 = 63 then (true, re (ra s) 2 0)
  else if cat T s.1 = 64 then (true, re (ra s) 3 0)
  else if isL (cat T s.1) = true then (true, ru (re (ra s) 1 (cat T s.1 - 97)) (s.2.2.2.2.2.2 ||| (if v_126 s.2.2.2.1 (cat T s.1 - 97) = 0 then (1 <<< ((cat T s.1 - 97) &&& 31)) else 0)))
  else (false, s)
def bb (r : Option (Bool × RS)) (k : RS → Option (Bool × RS)) : Option (Bool × RS) := match r with
  | some (true, s) => k s
  | some (false, s) => some (false, s)
  | none => none
/-- expression 0, term 1, factor 2, part 3, their rests 5, 6, 7, the rest of a row from its n-th item on 7 + n -/
def rR (T : List Int32) : Nat → Nat → RS → Option (Bool × RS)
  | 0, _, _ => none
  | f + 1, w, s =>
    if w = 0 then bb (rR T f 1 s) (rR T f 5)
    else if w = 1 then bb (rR T f 2 s) (rR T f 6)
    else if w = 2 then bb (rR T f 3 s) (rR T f 7)
    else if w = 3 then
      if cat T s.1 = 35 then (match rR T f 2 (ra s) with
        | some (b, s') => some (b, re s' 8 0)
        | none => none)
      else if cat T s.1 = 40 then bb (rR T f 0 (ra s)) (fun s' => if cat T s'.1 = 41 then some (true, ra s') else some (false, s'))
      else if cat T s.1 = 91 then rR T f 8 (ra s)
      else some (rsp T s)
    else if w = 5 then
      if cat T s.1 = 43 then bb (rR T f 1 (ra s)) (fun s' => rR T f 5 (re s' 4 0))
      else if cat T s.1 = 45 then bb (rR T f 1 (ra s)) (fun s' => rR T f 5 (re s' 5 0))
      else some (true, s)
    else if w = 6 then
      if cat T s.1 = 42 then bb (rR T f 2 (ra s)) (fun s' => rR T f 6 (re s' 6 0))
      else some (true, s)
    else if w = 7 then
      if cat T s.1 = 46 then (if isD (cat T (s.1 + 1)) = true then rR T f 7 (ra (re (ra s) 7 (cat T (s.1 + 1) - 48))) else some (false, ra s))
      else some (true, s)
    else bb (rR T f 0 s) (fun s1 =>
      if cat T s1.1 = 93 then some (true, re (ra (re s1 9 0)) 10 (Int32.ofNat (w - 7)))
      else if w = 15 then some (false, re s1 9 0)
      else if cat T s1.1 = 44 then rR T f (w + 1) (ra (re s1 9 0))
      else some (false, re s1 9 0))
section R44b
variable {T : List Int32} {q : Nat} {h : Hp} {s : RS}
theorem dgs_le : ∀ k p n, p ≤ (dgs T k p n).2 ∧ (p ≤ T.length → (dgs T k p n).2 ≤ T.length) := by
  intro k
  induction k with
  | zero => intro p n; exact ⟨Nat.le_refl _, fun h => h⟩
  | succ k ih =>
    intro p n
    simp only [dgs]
    split
    · rename_i hd
      obtain ⟨a, b⟩ := ih (p + 1) (((if n < 0 then 0 else n) * 10 + cat T p) - 48)
      refine ⟨by omega, fun hp => b ?_⟩
      unfold isD cat at hd
      by_cases h1 : p < T.length
      · omega
      · rw [if_neg h1] at hd; exact absurd hd (by decide)
    · exact ⟨Nat.le_refl _, fun h => h⟩
theorem c_38 (H : rs T q h s) : ∃ h', p_38 h = some ((dgs T 6 s.1 (-1)).1, h') ∧ rs T q h' ((dgs T 6 s.1 (-1)).2, s.2) ∧ rfr h h' := by
  unfold p_38
  have key : ∀ k, ∀ (N : Nat) (n : Int32) (g : Hp) (p : Nat), k ≤ 6 → k < N → rs T q g (p, s.2) → ∃ h', w_lp (fun (t : Int32 × Int32 × Hp) => l_38_4 t.1 t.2.1 t.2.2) N (n, Int32.ofNat (6 - k), g) = some ((dgs T k p n).1, h') ∧ rs T q h' ((dgs T k p n).2, s.2) ∧ rfr g h' := by
    intro k
    induction k with
    | zero =>
      intro N n g p hk hN Hg
      refine ⟨g, u_once (by omega) ?_, Hg, rfr_refl⟩
      simp only [l_38_4]
      rw [if_neg (by decide)]; rfl
    | succ k ih =>
      intro N n g p hk hN Hg
      obtain ⟨N, rfl⟩ : ∃ m, N = m + 1 := ⟨N - 1, by omega⟩
      obtain ⟨e, g1, v1, g2, -, -⟩ := rs_at Hg
      have hlt : Int32.ofNat (6 - (k + 1)) < 6 := (u_ltL (by omega) (by decide)).mpr (show 6 - (k + 1) < 6 by omega)
      have e6 : Int32.ofNat (6 - (k + 1)) + 1 = Int32.ofNat (6 - k) := by rw [u_S]; congr 1; omega
      rw [e] at g1
      simp only [w_lp, l_38_4]
      rw [if_pos hlt, e, g1, g2, v1, s_124]
      simp only [w_gd, w_let, dgs, e6]
      cases hd : isD (cat T p) with
      | false =>
        rw [if_pos (by rfl), if_neg (by decide)]
        exact ⟨g, rfl, Hg, rfr_refl⟩
      | true =>
        rw [if_neg (by decide), if_pos rfl]
        have hlt2 : p < T.length := by
          unfold isD cat at hd
          by_cases h1 : p < T.length
          · exact h1
          · rw [if_neg h1] at hd; exact absurd hd (by decide)
        obtain ⟨h', a1, a2, a3⟩ := ih N (((if n < 0 then 0 else n) * 10 + cat T p) - 48) (w_up g 17 2 ((g 17 2) + 1)) (p + 1) (by omega) (by omega) (rs_up (a := 0) Hg hlt2)
        exact ⟨h', a1, a2, rfr_trans rfr_17 a3⟩
  exact key 6 w_N (-1) h s.1 (Nat.le_refl 6) (by decide) H
theorem c_37 (H : rs T q h s) : (isL (cat T s.1) = true ∧ ∃ h', p_37 h = some (cat T s.1 - 97, h') ∧ rs T q h' (ra s) ∧ rfr h h') ∨ (isL (cat T s.1) = false ∧ p_37 h = some (-1, h)) := by
  obtain ⟨e, g1, v1, g2, -, -⟩ := rs_at H
  unfold p_37
  rw [e] at g1
  rw [e, g1, g2, v1, s_123]
  simp only [w_gd, w_let]
  cases hc : isL (cat T s.1) with
  | false => right; exact ⟨rfl, by rw [if_pos (by rfl)]⟩
  | true =>
    left
    rw [if_neg (by decide)]
    refine ⟨rfl, _, rfl, rs_up (a := 0) H ?_, rfr_17⟩
    unfold isL cat at hc
    by_cases h1 : s.1 < T.length
    · exact h1
    · rw [if_neg h1] at hc; exact absurd hc (by decide)
theorem rs_use {x : Int32} (H : rs T q h s) : rs T q (w_up h 24 7 x) (ru s x) ∧ rfr h (w_up h 24 7 x) := by
  obtain ⟨hq, ht, h0, h1, h2, hp2, h3, h4, h5, h6, h7, h8, h9, h10⟩ := H
  refine ⟨⟨hq, tx_fr ht (by simp (disch := omega) only [w_up_q]) (by simp (disch := omega) only [w_up_ne]), ?_, ?_, ?_, hp2, ?_, ?_, ?_, h6, fun i hi => ?_, ?_, ?_, ?_⟩, w_fr_up (w_fr_refl _ _) (by unfold rdP; omega), w_up_b (by decide)⟩
  · rw [w_up_q (by decide)]; exact h0
  · rw [w_up_q (by decide)]; exact h1
  · rw [w_up_q (by decide)]; exact h2
  · rw [w_up_q (by decide)]; exact h3
  · rw [w_up_q (by decide)]; exact h4
  · rw [w_up_b (by decide)]; exact h5
  · rw [w_up_q (by decide), w_up_q (by decide), w_up_q (by decide)]; exact h7 i hi
  · rw [w_up_b (by decide)]; exact h8
  · rw [w_up_b (by decide)]; exact h9
  · exact w_up_at
theorem isL_ne {x : Int32} (h : isL x = true) : ¬ x - 97 = -1 := by
  unfold isL at h
  simp only [Bool.and_eq_true, decide_eq_true_eq] at h
  intro e
  have : x = 96 := by grind
  rw [this] at h; exact absurd h.1 (by decide)
theorem isLD {x : Int32} (h : isD x = true) : ¬ x = 63 ∧ ¬ x = 64 := by
  unfold isD at h
  simp only [Bool.and_eq_true, decide_eq_true_eq] at h
  constructor
  · rintro rfl; exact absurd h.2 (by decide)
  · rintro rfl; exact absurd h.2 (by decide)
theorem c_46 (H : rs T q h s) : ∃ h', p_46 h = some (ofB (rsp T s).1, h') ∧ rs T q h' (rsp T s).2 ∧ rfr h h' := by
  obtain ⟨e, g1, v1, g2, -, -⟩ := rs_at H
  unfold p_46 rsp
  rw [e] at g1
  rw [e, g1, g2, v1, s_124]
  simp only [w_gd]
  cases hd : isD (cat T s.1) with
  | true =>
    rw [if_neg (by decide), if_pos rfl]
    have h24 : (h 17 1 == 24) = true := by rw [H.2.2.2.1]; rfl
    rw [h24]
    simp only
    obtain ⟨h1, a1, a2, a3⟩ := c_38 H
    rw [a1]
    simp only [Option.bind_some]
    obtain ⟨h2, b1, b2, b3⟩ := c_add (k := 0) (d := (dgs T 6 s.1 (-1)).1) a2
    rw [b1]
    exact ⟨h2, rfl, b2, rfr_trans a3 b3⟩
  | false =>
    rw [if_pos (by rfl), if_neg (by decide)]
    rcases c_skip (x := 63) H (by decide) with ⟨c1, h1, a1, a2, a3⟩ | ⟨c1, a1⟩
    · rw [a1, if_pos c1]
      simp only [Option.bind_some]
      rw [if_neg (by decide), show (h1 17 1 == 24) = true by rw [a2.2.2.2.1]; rfl]
      simp only
      obtain ⟨h2, b1, b2, b3⟩ := c_add (k := 2) (d := 0) a2
      rw [b1]
      exact ⟨h2, rfl, b2, rfr_trans a3 b3⟩
    · rw [a1, if_neg c1]
      simp only [Option.bind_some, if_true]
      rcases c_skip (x := 64) H (by decide) with ⟨c2, h1, a1, a2, a3⟩ | ⟨c2, a1⟩
      · rw [a1, if_pos c2]
        simp only [Option.bind_some]
        rw [if_neg (by decide), show (h1 17 1 == 24) = true by rw [a2.2.2.2.1]; rfl]
        simp only
        obtain ⟨h2, b1, b2, b3⟩ := c_add (k := 3) (d := 0) a2
        rw [b1]
        exact ⟨h2, rfl, b2, rfr_trans a3 b3⟩
      · rw [a1, if_neg c2]
        simp only [Option.bind_some, if_true]
        rcases c_37 H with ⟨c3, h1, a1, a2, a3⟩ | ⟨c3, a1⟩
        · rw [a1, if_pos c3]
          simp only [Option.bind_some]
          rw [if_neg (isL_ne c3), show (h1 17 1 == 24) = true by rw [a2.2.2.2.1]; rfl]
          simp only
          obtain ⟨h2, b1, b2, b3⟩ := c_add (k := 1) (d := cat T s.1 - 97) a2
          rw [b1]
          simp only [Option.bind_some]
          rw [show (h2 17 1 == 24) = true by rw [b2.2.2.2.1]; rfl]
          simp only [w_let]
          have hu : h2 24 7 = s.2.2.2.2.2.2 := b2.2.2.2.2.2.2.2.2.2.2.2.2.2
          have hk : h2 17 4 = s.2.2.2.1 := b2.2.2.2.2.2.2.2.1
          rw [hu, hk]
          obtain ⟨d1, d2⟩ := rs_use (x := s.2.2.2.2.2.2 ||| (if v_126 s.2.2.2.1 (cat T s.1 - 97) = 0 then (1 <<< ((cat T s.1 - 97) &&& 31)) else 0)) b2
          exact ⟨_, rfl, d1, rfr_trans a3 (rfr_trans b3 d2)⟩
        · rw [a1, if_neg (by rw [c3]; decide)]
          exact ⟨h, rfl, H, rfr_refl⟩
end R44b
