/-! ===== the model's scanner in the heap ===== -/
/-- the open marks, the top first -/
def mk (m : Hp) : List (Int32 × Nat) → Prop
  | [] => True
  | (k, c) :: M => m 1128 M.length = k ∧ m 1129 M.length = Int32.ofNat c ∧ c ≤ 8 ∧ mk m M
/-- the model has loaded T -/
def ld (T : List Int32) (m : Hp) : Prop := T.length ≤ 40 ∧ m 1076 66 = Int32.ofNat T.length ∧ ∀ i, i < T.length → m 1127 i = T.getD i 0
def sc (T : List Int32) (m : Hp) (t : SC) : Prop := ld T m ∧ m 1076 67 = Int32.ofNat t.1 ∧ t.1 ≤ T.length ∧ m 1076 70 = Int32.ofNat t.2.1.length ∧ t.2.1.length ≤ t.1 ∧ mk m t.2.1
def scP (q : Nat) : Prop := q = 1076 ∨ q = 1128 ∨ q = 1129
/-- what the scanner leaves: its marks and the fields 67, 70 alone -/
def sfr (m m' : Hp) : Prop := w_fr scP m m' ∧ ∀ b, b ≠ 67 → b ≠ 70 → m' 1076 b = m 1076 b
theorem sfr_refl {m : Hp} : sfr m m := ⟨w_fr_refl _ _, fun _ _ _ => rfl⟩
theorem sfr_trans {a b c : Hp} (x : sfr a b) (y : sfr b c) : sfr a c := ⟨w_fr_trans x.1 y.1, fun k h1 h2 => (y.2 k h1 h2).trans (x.2 k h1 h2)⟩
theorem sfr_up {m m' : Hp} {q b : Nat} {x : Int32} (h : sfr m m') (hq : q = 1128 ∨ q = 1129 ∨ (q = 1076 ∧ (b = 67 ∨ b = 70))) : sfr m (w_up m' q b x) := by
  refine ⟨w_fr_up h.1 (by unfold scP; omega), fun k h1 h2 => ?_⟩
  have : ¬ (1076 = q ∧ k = b) := by omega
  rw [w_upD, if_neg this]; exact h.2 k h1 h2
theorem ld_sfr {T : List Int32} {m m' : Hp} (h : ld T m) (hs : sfr m m') : ld T m' := by
  obtain ⟨a, b, c⟩ := h
  refine ⟨a, (hs.2 66 (by decide) (by decide)).trans b, fun i hi => ?_⟩
  rw [hs.1 1127 (by unfold scP; omega)]; exact c i hi
theorem mk_up {m : Hp} {q b : Nat} {x : Int32} : ∀ M : List (Int32 × Nat), mk m M → (q = 1076 ∨ M.length ≤ b) → mk (w_up m q b x) M := by
  intro M
  induction M with
  | nil => intro _ _; trivial
  | cons e M ih =>
    obtain ⟨k, c⟩ := e
    rintro ⟨h1, h2, h3, h4⟩ hor
    have e1 : ¬ (1128 = q ∧ M.length = b) := by simp at hor; omega
    have e2 : ¬ (1129 = q ∧ M.length = b) := by simp at hor; omega
    refine ⟨?_, ?_, h3, ih h4 (by simp at hor; omega)⟩
    · rw [w_upD, if_neg e1]; exact h1
    · rw [w_upD, if_neg e2]; exact h2
def cs0 (T : List Int32) (p : Nat) : Int32 := if p < T.length then T.getD p 0 else 0
theorem cs_eq {T : List Int32} {p : Nat} {x : Int32} (h0 : ¬ x = 0) (h1 : ¬ x = -1) : cs0 T p = x ↔ cat T p = x := by
  unfold cs0 cat
  by_cases h : p < T.length
  · rw [if_pos h, if_pos h]
  · rw [if_neg h, if_neg h]
    exact ⟨fun e => absurd e.symm h0, fun e => absurd e.symm h1⟩
theorem cs_D {T : List Int32} {p : Nat} : isD (cs0 T p) = isD (cat T p) := by
  unfold cs0 cat
  by_cases h : p < T.length
  · rw [if_pos h, if_pos h]
  · rw [if_neg h, if_neg h]; decide
theorem cs_L {T : List Int32} {p : Nat} : isL (cs0 T p) = isL (cat T p) := by
  unfold cs0 cat
  by_cases h : p < T.length
  · rw [if_pos h, if_pos h]
  · rw [if_neg h, if_neg h]; decide
section S53
variable {T : List Int32} {m : Hp}
theorem m_150 {p : Nat} (H : ld T m) (hp : m 1076 67 = Int32.ofNat p) (hp2 : p ≤ T.length) : v_150 m = cs0 T p ∧ g_150 m = true := by
  obtain ⟨h40, hl, hi⟩ := H
  unfold v_150 g_150 cs0
  rw [hp, hl]
  simp only [u_lt (show p < 2147483648 by omega) (show T.length < 2147483648 by omega)]
  by_cases h : p < T.length
  · simp (disch := omega) only [h, if_true, u_cl, u_ix, hi p h]
    exact ⟨trivial, trivial⟩
  · simp only [h, if_false]
    exact ⟨trivial, trivial⟩
theorem m_149 {x : Int32} : v_149 x = ofB (isD x) := by
  unfold v_149 v_147 isD
  by_cases h1 : x < 48
  · have : ¬ 48 ≤ x := by grind
    simp [h1, this, ofB]
  · have : 48 ≤ x := by grind
    by_cases h2 : x ≤ 57 <;> simp [h1, this, h2, ofB]
theorem m_148 {x : Int32} : v_148 x = ofB (isL x) := by
  unfold v_148 v_147 isL
  by_cases h1 : x < 97
  · have : ¬ 97 ≤ x := by grind
    simp [h1, this, ofB]
  · have : 97 ≤ x := by grind
    by_cases h2 : x ≤ 122 <;> simp [h1, this, h2, ofB]
/-- digits: at moves to the end of at most 6 -/
theorem m_152 {p : Nat} (H : ld T m) (hp : m 1076 67 = Int32.ofNat p) (hp2 : p ≤ T.length) : p_152 m = some (ofB (isD (cat T p) && !isD (cat T (dgs T 6 p (-1)).2)), w_up m 1076 67 (Int32.ofNat (dgs T 6 p (-1)).2)) := by
  have h40 := H.1
  have ldu : ∀ x, ld T (w_up m 1076 67 x) := fun x => ld_sfr H (sfr_up sfr_refl (Or.inr (Or.inr ⟨rfl, Or.inl rfl⟩)))
  have key : ∀ k, ∀ (N p0 : Nat) (n : Int32), k ≤ 6 → k < N → p0 ≤ T.length → ∃ c, w_lp (fun (t : Int32 × Hp) => l_152_2 t.1 t.2) N (Int32.ofNat (6 - k), w_up m 1076 67 (Int32.ofNat p0)) = some (Int32.ofNat c, w_up m 1076 67 (Int32.ofNat (dgs T k p0 n).2)) ∧ c ≤ 6 ∧ 6 - k ≤ c ∧ (k ≠ 0 → isD (cat T p0) = true → 6 - k < c) ∧ (k = 0 ∨ isD (cat T p0) = false → c = 6 - k) := by
    intro k
    induction k with
    | zero =>
      intro N p0 n _ hN hp0
      refine ⟨6, u_once (by omega) ?_, by omega, by omega, fun h => absurd rfl h, fun _ => rfl⟩
      show l_152_2 (Int32.ofNat 6) _ = _
      unfold l_152_2; rw [if_neg (by decide)]; rfl
    | succ k ih =>
      intro N p0 n hk hN hp0
      obtain ⟨N, rfl⟩ : ∃ q, N = q + 1 := ⟨N - 1, by omega⟩
      have hlt : Int32.ofNat (6 - (k + 1)) < 6 := (u_ltL (by omega) (by decide)).mpr (show 6 - (k + 1) < 6 by omega)
      obtain ⟨v, g⟩ := m_150 (p := p0) (ldu (Int32.ofNat p0)) w_up_at hp0
      simp only [dgs]
      cases hd : isD (cat T p0) with
      | false =>
        refine ⟨6 - (k + 1), u_once (by omega) ?_, by omega, by omega, fun _ h => (by cases h), fun _ => rfl⟩
        show l_152_2 _ _ = _
        unfold l_152_2
        rw [if_pos hlt, g, v, m_149, cs_D, hd]; rfl
      | true =>
        have hp1 := isD_lt hd
        obtain ⟨c, c1, c2, c3, c4, c5⟩ := ih N (p0 + 1) (((if n < 0 then 0 else n) * 10 + cat T p0) - 48) (by omega) (by omega) hp1
        refine ⟨c, ?_, c2, by omega, fun _ _ => by omega, fun h => h.elim (fun h => absurd h (Nat.succ_ne_zero k)) (fun h => by cases h)⟩
        have hstep : l_152_2 (Int32.ofNat (6 - (k + 1))) (w_up m 1076 67 (Int32.ofNat p0)) = some (.inl (Int32.ofNat (6 - k), w_up m 1076 67 (Int32.ofNat (p0 + 1)))) := by
          unfold l_152_2
          rw [if_pos hlt, g, v, m_149, cs_D, hd]
          simp only [w_gd, w_let]
          rw [if_neg (by decide), w_up_at, u_S, w_up_up, u_S, show 6 - (k + 1) + 1 = 6 - k by omega]
        simp only [w_lp, hstep, if_true]
        exact c1
  obtain ⟨c, c1, c2, c3, c4, c5⟩ := key 6 w_N p (-1) (Nat.le_refl 6) (by decide) hp2
  have hm : w_up m 1076 67 (Int32.ofNat p) = m := by rw [← hp, w_up_self]
  rw [hm] at c1
  unfold p_152
  rw [show (Int32.ofNat (6 - 6), m) = ((0, m) : Int32 × Hp) from rfl] at c1
  rw [c1]
  simp only [Option.bind_some, q_152_17]
  have hp3 := (dgs_le (T := T) 6 p (-1)).2 hp2
  obtain ⟨v, g⟩ := m_150 (p := (dgs T 6 p (-1)).2) (ldu (Int32.ofNat (dgs T 6 p (-1)).2)) w_up_at hp3
  rw [g, v, m_149, cs_D]
  cases hd : isD (cat T p) with
  | false =>
    have : c = 0 := by have := c5 (Or.inr hd); omega
    subst this
    simp only [ite_self, w_gd, Bool.false_and]
    rw [if_pos (by decide)]; rfl
  | true =>
    have hc : 0 < c := by have := c4 (by decide) hd; omega
    have hle : ¬ Int32.ofNat c ≤ 0 := by
      intro e
      have := (u_leL (a := c) (n := 0) (by omega) (by decide)).mp e
      have h2 : c ≤ 0 := this
      omega
    simp only [ite_self, w_gd, Bool.true_and]
    rw [if_neg hle]
    cases isD (cat T (dgs T 6 p (-1)).2) <;> rfl
theorem sc_1 {t : SC} {M : List (Int32 × Nat)} {b : Bool} (H : sc T m t) (hp : t.1 < T.length) (hM : mk (w_up m 1076 67 (Int32.ofNat (t.1 + 1))) M) (hl : m 1076 70 = Int32.ofNat M.length) (hle : M.length ≤ t.1 + 1) : sc T (w_up m 1076 67 ((m 1076 67) + 1)) (t.1 + 1, M, b) := by
  obtain ⟨h1, h2, h3, h4, h5, h6⟩ := H
  rw [h2, u_S]
  refine ⟨ld_sfr h1 (sfr_up sfr_refl (Or.inr (Or.inr ⟨rfl, Or.inl rfl⟩))), w_up_at, hp, ?_, hle, hM⟩
  rw [w_up_b (by decide)]; exact hl
def scM (x : Int32) (p : Nat) (M : List (Int32 × Nat)) : SC ⊕ (Bool × Nat) := match M with
  | [] => .inr (false, p)
  | (k, c) :: M =>
    if (x = 41 ∧ ¬ k = 91) ∨ (x = 93 ∧ k = 91) then .inl (p + 1, M, false)
    else if x = 44 ∧ k = 91 ∧ c < 8 then .inl (p + 1, (k, c + 1) :: M, true)
    else .inr (false, p)
/-- one step of the scanner -/
theorem m_153 {t : SC} (H : sc T m t) : (∃ t' m', scS T t = .inl t' ∧ l_153_5 (ofB t.2.2) m = some (.inl (ofB t'.2.2, m')) ∧ sc T m' t' ∧ sfr m m' ∧ t.1 < t'.1) ∨ (∃ b p m', scS T t = .inr (b, p) ∧ l_153_5 (ofB t.2.2) m = some (.inr (ofB b, m')) ∧ ld T m' ∧ m' 1076 67 = Int32.ofNat p ∧ p ≤ T.length ∧ sfr m m') := by
  obtain ⟨p, M, b⟩ := t
  have H0 := H
  obtain ⟨h1, h2, h3, h4, h5, h6⟩ := H
  simp only at h2 h3 h4 h5 h6
  have h40 := h1.1
  obtain ⟨v, g⟩ := m_150 h1 h2 h3
  have e67 : ∀ z, sfr m (w_up m 1076 67 z) := fun z => sfr_up sfr_refl (Or.inr (Or.inr ⟨rfl, Or.inl rfl⟩))
  have d0 : (m 1076 70 ≤ 0) ↔ M = [] := by
    rw [h4]
    have := u_leL (a := M.length) (n := 0) (by omega) (by decide)
    rw [this]
    show M.length ≤ 0 ↔ M = []
    rw [Nat.le_zero, List.length_eq_zero_iff]
  have hlt : (m 1076 67 < m 1076 66) ↔ p < T.length := by
    rw [h2, h1.2.1]; exact u_lt (by omega) (by omega)
  -- what the guards are
  have gM : (if m 1076 70 ≤ 0 then true else w_ix ((m 1076 70) - 1) 80) = true := by
    by_cases c : M = []
    · rw [if_pos (d0.mpr c)]
    · rw [if_neg (fun e => c (d0.mp e)), h4, u_subL (by cases M with | nil => exact absurd rfl c | cons => simp)]
      exact u_ix (by omega) (by omega)
  have hrow : (if m 1076 70 ≤ 0 then (0 : Int32) else if m 1128 ((m 1076 70) - 1).toNatClampNeg = 91 then 1 else 0) = ofB (topRow M) := by
    cases M with
    | nil => rw [if_pos (d0.mpr rfl)]; rfl
    | cons e M =>
      obtain ⟨k, c⟩ := e
      rw [if_neg (fun e => by cases d0.mp e), h4, List.length_cons]
      have : Int32.ofNat (M.length + 1) - 1 = Int32.ofNat M.length := by
        have := u_subL (a := M.length + 1) (n := 1) (by omega)
        rw [this]; rfl
      rw [this, u_cl (by simp at h5; omega), h6.1]
      unfold topRow
      by_cases c : k = 91 <;> simp [c, ofB]
  have base : ¬ (b = false ∧ M = [] ∧ (¬ p < T.length ∨ cat T p = 59)) → l_153_5 (ofB b) m = q_153_37 m (ofB b) (cs0 T p) (ofB (topRow M)) := by
    intro hno
    have e19 : q_153_19 m (ofB b) = q_153_37 m (ofB b) (cs0 T p) (ofB (topRow M)) := by
      unfold q_153_19
      rw [g, gM, hrow, v]; rfl
    unfold l_153_5
    cases b with
    | true => rw [if_neg (by decide)]; exact e19
    | false =>
      rw [if_pos (by rfl)]
      by_cases c : M = []
      · rw [if_pos (d0.mpr c)]
        have hp : p < T.length := by
          by_cases hh : p < T.length
          · exact hh
          · exact absurd ⟨rfl, c, Or.inl hh⟩ hno
        have h59 : ¬ cat T p = 59 := fun e => hno ⟨rfl, c, Or.inr e⟩
        rw [if_pos (hlt.mpr hp), g, v]
        simp only [w_gd]
        rw [if_neg (fun e => h59 ((cs_eq (by decide) (by decide)).mp e))]
        exact e19
      · rw [if_neg (fun e => c (d0.mp e))]; exact e19
  have one : ∀ (M' : List (Int32 × Nat)) (b' : Bool), p < T.length → M' = M → sc T (w_up m 1076 67 ((m 1076 67) + 1)) (p + 1, M', b') := by
    rintro M' b' hp rfl
    exact sc_1 H0 hp (mk_up _ h6 (Or.inl rfl)) h4 (by show M'.length ≤ p + 1; omega)
  by_cases hex : b = false ∧ M = [] ∧ (¬ p < T.length ∨ cat T p = 59)
  · right
    refine ⟨true, p, m, ?_, ?_, h1, h2, h3, sfr_refl⟩
    · unfold scS; dsimp only; rw [if_pos hex]
    · obtain ⟨rfl, c, hor⟩ := hex
      unfold l_153_5
      rw [if_pos (by rfl), if_pos (d0.mpr c)]
      by_cases hp : p < T.length
      · rw [if_pos (hlt.mpr hp), g, v]
        simp only [w_gd]
        have h59 : cat T p = 59 := hor.elim (fun h => absurd hp h) id
        rw [if_pos ((cs_eq (by decide) (by decide)).mpr h59)]; rfl
      · rw [if_neg (fun e => hp (hlt.mp e))]; rfl
  rw [show ((p, M, b) : SC).2.2 = b from rfl, base hex]
  have hS : scS T (p, M, b) = if b = true then
      if isD (cat T p) = true then (if isD (cat T (dgs T 6 p (-1)).2) = true then .inr (false, (dgs T 6 p (-1)).2) else .inl ((dgs T 6 p (-1)).2, M, false))
      else if isL (cat T p) = true ∨ cat T p = 63 ∨ cat T p = 64 then .inl (p + 1, M, false)
      else if cat T p = 35 then .inl (p + 1, M, true)
      else if cat T p = 40 ∨ cat T p = 91 then .inl (p + 1, (cat T p, 1) :: M, true)
      else .inr (false, p)
    else if cat T p = 46 then (if isD (cat T (p + 1)) = true then .inl (p + 2, M, false) else .inr (false, p + 1))
    else if cat T p = 43 ∨ cat T p = 45 ∨ cat T p = 42 then .inl (p + 1, M, true)
    else scM (cat T p) p M := by
    unfold scS; dsimp only; rw [if_neg hex]; rfl
  rw [hS]
  have ce : ∀ {x : Int32}, ¬ x = 0 → ¬ x = -1 → (cs0 T p = x ↔ cat T p = x) := fun h0 h1 => cs_eq h0 h1
  cases b with
  | true =>
    rw [if_pos rfl]
    have o1 : ¬ (ofB true = 0) := by decide
    by_cases c1 : isD (cat T p) = true
    · rw [if_pos c1]
      have hp := isD_lt c1
      have e1 : q_153_37 m (ofB true) (cs0 T p) (ofB (topRow M)) = (p_152 m).bind fun vz56 => if vz56.1 = 0 then some (.inr (0, vz56.2)) else some (.inl (0, vz56.2)) := by
        unfold q_153_37
        rw [if_neg o1, m_149, cs_D, c1, if_neg (by decide)]
      rw [e1, m_152 h1 h2 h3, c1]
      simp only [Option.bind_some, Bool.true_and]
      have hd := dgs_le (T := T) 6 p (-1)
      have hd3 : p < (dgs T 6 p (-1)).2 := by
        have := dgs_le (T := T) 5 (p + 1) (((if (-1 : Int32) < 0 then 0 else -1) * 10 + cat T p) - 48)
        simp only [dgs, c1, if_true] at this ⊢
        omega
      cases c2 : isD (cat T (dgs T 6 p (-1)).2) with
      | true =>
        right
        refine ⟨false, _, _, rfl, ?_, ld_sfr h1 (e67 _), w_up_at, hd.2 h3, e67 _⟩
        rw [if_pos (by rfl)]; rfl
      | false =>
        left
        refine ⟨_, _, rfl, ?_, ⟨ld_sfr h1 (e67 _), w_up_at, hd.2 h3, ?_, ?_, mk_up _ h6 (Or.inl rfl)⟩, e67 _, hd3⟩
        · rw [if_neg (by decide)]; rfl
        · rw [w_up_b (by decide)]; exact h4
        · show M.length ≤ (dgs T 6 p (-1)).2; omega
    rw [if_neg c1]
    have c1' : isD (cat T p) = false := by simpa using c1
    have e37 : q_153_37 m (ofB true) (cs0 T p) (ofB (topRow M)) = q_153_51 m (ofB true) (cs0 T p) (ofB (topRow M)) := by
      unfold q_153_37
      rw [if_neg o1, m_149, cs_D, c1', if_pos (by rfl)]
    rw [e37]
    by_cases c2 : isL (cat T p) = true ∨ cat T p = 63 ∨ cat T p = 64
    · rw [if_pos c2]
      have hp : p < T.length := by
        rcases c2 with c | c | c
        · exact isL_lt c
        · exact cat_eq c (by decide)
        · exact cat_eq c (by decide)
      left
      refine ⟨_, _, rfl, ?_, one M false hp rfl, e67 _, Nat.lt_succ_self _⟩
      unfold q_153_51
      rw [if_neg o1, m_148, cs_L]
      rcases c2 with c | c | c
      · rw [c, if_neg (by decide)]; rfl
      · have : ¬ isL (cat T p) = true := by rw [c]; decide
        have h' : isL (cat T p) = false := by simpa using this
        rw [h', if_pos (by rfl), if_pos ((ce (by decide) (by decide)).mpr c)]; rfl
      · have : ¬ isL (cat T p) = true := by rw [c]; decide
        have h' : isL (cat T p) = false := by simpa using this
        rw [h', if_pos (by rfl), if_neg (fun e => by rw [(ce (by decide) (by decide)).mp e] at c; exact absurd c (by decide)), if_pos ((ce (by decide) (by decide)).mpr c)]; rfl
    rw [if_neg c2]
    have cL : isL (cat T p) = false := by
      cases h : isL (cat T p) with
      | false => rfl
      | true => exact absurd (Or.inl h) c2
    have c63 : ¬ cs0 T p = 63 := fun e => c2 (Or.inr (Or.inl ((ce (by decide) (by decide)).mp e)))
    have c64 : ¬ cs0 T p = 64 := fun e => c2 (Or.inr (Or.inr ((ce (by decide) (by decide)).mp e)))
    have e51 : q_153_51 m (ofB true) (cs0 T p) (ofB (topRow M)) = q_153_71 m (ofB true) (cs0 T p) (ofB (topRow M)) := by
      unfold q_153_51
      rw [if_neg o1, m_148, cs_L, cL, if_pos (by rfl), if_neg c63, if_neg c64]
    rw [e51]
    by_cases c3 : cat T p = 35
    · rw [if_pos c3]
      left
      refine ⟨_, _, rfl, ?_, one M true (cat_eq c3 (by decide)) rfl, e67 _, Nat.lt_succ_self _⟩
      unfold q_153_71
      rw [if_neg o1, if_pos ((ce (by decide) (by decide)).mpr c3)]; rfl
    rw [if_neg c3]
    have e71 : q_153_71 m (ofB true) (cs0 T p) (ofB (topRow M)) = q_153_83 m (ofB true) (cs0 T p) (ofB (topRow M)) := by
      unfold q_153_71
      rw [if_neg o1, if_neg (fun e => c3 ((ce (by decide) (by decide)).mp e))]
    rw [e71]
    by_cases c4 : cat T p = 40 ∨ cat T p = 91
    · rw [if_pos c4]
      have hp : p < T.length := by
        rcases c4 with c | c
        · exact cat_eq c (by decide)
        · exact cat_eq c (by decide)
      have e0 : cs0 T p = cat T p := by unfold cs0 cat; rw [if_pos hp, if_pos hp]
      have e83 : q_153_83 m (ofB true) (cs0 T p) (ofB (topRow M)) = q_153_91 m (ofB true) (cat T p) := by
        unfold q_153_83
        rw [if_neg o1, e0]
        rcases c4 with c | c
        · rw [if_pos c]
        · rw [if_neg (by rw [c]; decide), if_pos c]
      left
      refine ⟨_, w_up (w_up (w_up (w_up m 1128 M.length (cat T p)) 1129 M.length 1) 1076 70 (Int32.ofNat (M.length + 1))) 1076 67 (Int32.ofNat (p + 1)), rfl, ?_, ?_, ?_, Nat.lt_succ_self _⟩
      · rw [e83]; unfold q_153_91
        simp (disch := omega) only [h4, h2, u_ix, u_cl, w_gd, w_let, w_up_q, w_up_b, u_S]
      · have s1 : sfr m (w_up (w_up (w_up (w_up m 1128 M.length (cat T p)) 1129 M.length 1) 1076 70 (Int32.ofNat (M.length + 1))) 1076 67 (Int32.ofNat (p + 1))) := sfr_up (sfr_up (sfr_up (sfr_up sfr_refl (by omega)) (by omega)) (by omega)) (by omega)
        refine ⟨ld_sfr h1 s1, w_up_at, hp, ?_, ?_, ?_, ?_, by decide, ?_⟩
        · rw [w_up_b (by decide), w_up_at]; rfl
        · show M.length + 1 ≤ p + 1; omega
        · rw [w_up_q (by decide), w_up_q (by decide), w_up_q (by decide), w_up_at]
        · rw [w_up_q (by decide), w_up_q (by decide), w_up_at]; rfl
        · exact mk_up _ (mk_up _ (mk_up _ (mk_up _ h6 (Or.inr (Nat.le_refl _))) (Or.inr (Nat.le_refl _))) (Or.inl rfl)) (Or.inl rfl)
      · exact sfr_up (sfr_up (sfr_up (sfr_up sfr_refl (by omega)) (by omega)) (by omega)) (by omega)
    · rw [if_neg c4]
      right
      refine ⟨false, p, m, rfl, ?_, h1, h2, h3, sfr_refl⟩
      unfold q_153_83
      rw [if_neg o1, if_neg (fun e => c4 (Or.inl ((ce (by decide) (by decide)).mp e))), if_neg (fun e => c4 (Or.inr ((ce (by decide) (by decide)).mp e)))]
      unfold q_153_116
      rw [if_neg o1]; rfl
  | false =>
    rw [if_neg (by decide)]
    have o0 : ofB false = 0 := rfl
    have e116 : q_153_37 m (ofB false) (cs0 T p) (ofB (topRow M)) = q_153_116 m (ofB false) (cs0 T p) (ofB (topRow M)) := by
      unfold q_153_37
      rw [if_pos o0]; unfold q_153_51
      rw [if_pos o0]; unfold q_153_71
      rw [if_pos o0]; unfold q_153_83
      rw [if_pos o0]
    rw [e116]; unfold q_153_116
    rw [if_pos o0]
    by_cases c1 : cat T p = 46
    · rw [if_pos c1, if_pos ((ce (by decide) (by decide)).mpr c1)]
      have hp := cat_eq c1 (by decide)
      have H1 := one M false hp rfl
      obtain ⟨v1, g1⟩ := m_150 (m := w_up m 1076 67 ((m 1076 67) + 1)) (p := p + 1) H1.1 H1.2.1 hp
      simp only [w_let]
      rw [g1, v1, m_149, cs_D]
      simp only [w_gd]
      cases c2 : isD (cat T (p + 1)) with
      | false =>
        right
        refine ⟨false, p + 1, _, rfl, ?_, H1.1, H1.2.1, hp, e67 _⟩
        rw [if_pos (by rfl)]; rfl
      | true =>
        left
        have hp2 := isD_lt c2
        have H2 := sc_1 (M := M) (b := false) H1 hp2 (mk_up _ H1.2.2.2.2.2 (Or.inl rfl)) H1.2.2.2.1 (by show M.length ≤ p + 1 + 1; omega)
        refine ⟨(p + 2, M, false), _, rfl, ?_, H2, sfr_up (e67 _) (Or.inr (Or.inr ⟨rfl, Or.inl rfl⟩)), by show p < p + 2; omega⟩
        rw [if_neg (by decide)]
    rw [if_neg c1, if_neg (fun e => c1 ((ce (by decide) (by decide)).mp e))]
    by_cases c2 : cat T p = 43 ∨ cat T p = 45 ∨ cat T p = 42
    · rw [if_pos c2]
      have hp : p < T.length := by
        rcases c2 with c | c | c
        · exact cat_eq c (by decide)
        · exact cat_eq c (by decide)
        · exact cat_eq c (by decide)
      left
      refine ⟨_, _, rfl, ?_, one M true hp rfl, e67 _, Nat.lt_succ_self _⟩
      have e0 : cs0 T p = cat T p := by unfold cs0 cat; rw [if_pos hp, if_pos hp]
      rw [e0]
      rcases c2 with c | c | c
      · rw [c]; rfl
      · rw [c]; rfl
      · rw [c]; rfl
    rw [if_neg c2, if_neg (fun e => c2 (Or.inl ((ce (by decide) (by decide)).mp e))), if_neg (fun e => c2 (Or.inr (Or.inl ((ce (by decide) (by decide)).mp e)))), if_neg (fun e => c2 (Or.inr (Or.inr ((ce (by decide) (by decide)).mp e))))]
    cases M with
    | nil =>
      right
      refine ⟨false, p, m, rfl, ?_, h1, h2, h3, sfr_refl⟩
      have z : ofB (topRow []) = 0 := rfl
      have e186 : q_153_186 m (cs0 T p) (ofB (topRow [])) = some (.inr (0, m)) := by
        unfold q_153_186
        rw [z, if_pos rfl]; split <;> rfl
      have e168 : q_153_168 m (ofB false) (cs0 T p) (ofB (topRow [])) = some (.inr (0, m)) := by
        unfold q_153_168
        rw [e186, z, if_pos rfl]; split <;> rfl
      rw [e168, if_pos (d0.mpr rfl)]
      split <;> rfl
    | cons e M =>
      obtain ⟨k, c⟩ := e
      obtain ⟨k1, k2, k3, k4⟩ := h6
      have hl : M.length + 1 ≤ p := by simpa using h5
      have h4' : m 1076 70 = Int32.ofNat (M.length + 1) := by rw [h4]; rfl
      have em : Int32.ofNat (M.length + 1) - 1 = Int32.ofNat M.length := by
        have := u_subL (a := M.length + 1) (n := 1) (by omega)
        rw [this]; rfl
      have hn0 : ¬ m 1076 70 ≤ 0 := fun e => by cases d0.mp e
      have htop : topRow ((k, c) :: M) = decide (k = 91) := rfl
      -- what closes
      have clo : p < T.length → (∃ m', q_153_173 m (ofB false) = some (.inl (ofB false, m')) ∧ sc T m' (p + 1, M, false) ∧ sfr m m') := by
        intro hp
        refine ⟨w_up (w_up m 1076 70 (Int32.ofNat M.length)) 1076 67 (Int32.ofNat (p + 1)), ?_, ?_, sfr_up (sfr_up sfr_refl (by omega)) (by omega)⟩
        · unfold q_153_173
          simp (disch := omega) only [w_let, h4', em, w_up_b, h2, u_S]
        · refine ⟨ld_sfr h1 (sfr_up (sfr_up sfr_refl (by omega)) (by omega)), w_up_at, hp, ?_, ?_, mk_up _ (mk_up _ k4 (Or.inl rfl)) (Or.inl rfl)⟩
          · rw [w_up_b (by decide), w_up_at]
          · show M.length ≤ p + 1; omega
      have eq186 : q_153_186 m (cs0 T p) (ofB (topRow ((k, c) :: M))) = if cat T p = 44 ∧ k = 91 ∧ c < 8 then some (.inl (1, w_up (w_up m 1129 M.length (Int32.ofNat (c + 1))) 1076 67 (Int32.ofNat (p + 1)))) else some (.inr (0, m)) := by
        unfold q_153_186
        rw [htop]
        by_cases c44 : cat T p = 44
        · rw [if_pos ((ce (by decide) (by decide)).mpr c44)]
          by_cases ck : k = 91
          · have o1 : ¬ ofB (decide (k = 91)) = 0 := by rw [decide_eq_true ck]; decide
            rw [if_neg o1]
            have hc8 : (Int32.ofNat c < 8) ↔ c < 8 := u_ltL (by omega) (by decide)
            simp (disch := omega) only [h4', em, u_ix, u_cl, w_gd, k2, hc8, w_let, w_up_q, h2, u_S]
            by_cases c8 : c < 8
            · rw [if_pos c8, if_pos ⟨c44, ck, c8⟩]
            · rw [if_neg c8, if_neg (fun hh => c8 hh.2.2)]
          · have o1 : ofB (decide (k = 91)) = 0 := by rw [decide_eq_false ck]; rfl
            rw [if_pos o1, if_neg (fun hh => ck hh.2.1)]
        · rw [if_neg (fun e => c44 ((ce (by decide) (by decide)).mp e)), if_neg (fun hh => c44 hh.1)]
      have fin : ¬ ((cat T p = 41 ∧ ¬ k = 91) ∨ (cat T p = 93 ∧ k = 91)) → (∃ t' m', scM (cat T p) p ((k, c) :: M) = .inl t' ∧ q_153_186 m (cs0 T p) (ofB (topRow ((k, c) :: M))) = some (.inl (ofB t'.2.2, m')) ∧ sc T m' t' ∧ sfr m m' ∧ p < t'.1) ∨ (∃ b q m', scM (cat T p) p ((k, c) :: M) = .inr (b, q) ∧ q_153_186 m (cs0 T p) (ofB (topRow ((k, c) :: M))) = some (.inr (ofB b, m')) ∧ ld T m' ∧ m' 1076 67 = Int32.ofNat q ∧ q ≤ T.length ∧ sfr m m') := by
        intro hno
        rw [eq186]
        unfold scM
        dsimp only
        rw [if_neg hno]
        by_cases c44 : cat T p = 44 ∧ k = 91 ∧ c < 8
        · rw [if_pos c44, if_pos c44]
          left
          have hp := cat_eq c44.1 (by decide)
          refine ⟨_, _, rfl, rfl, ?_, sfr_up (sfr_up sfr_refl (by omega)) (by omega), Nat.lt_succ_self _⟩
          refine ⟨ld_sfr h1 (sfr_up (sfr_up sfr_refl (by omega)) (by omega)), w_up_at, hp, ?_, ?_, ?_, ?_, by have := c44.2.2; omega, mk_up _ (mk_up _ k4 (Or.inr (Nat.le_refl _))) (Or.inl rfl)⟩
          · rw [w_up_b (by decide), w_up_q (by decide), h4']; rfl
          · show M.length + 1 ≤ p + 1; omega
          · rw [w_up_q (by decide), w_up_q (by decide)]; exact k1
          · rw [w_up_q (by decide), w_up_at]
        · rw [if_neg c44, if_neg c44]
          right
          exact ⟨false, p, m, rfl, rfl, h1, h2, h3, sfr_refl⟩
      rw [if_neg hn0]
      by_cases ck : k = 91
      · have o1 : ¬ ofB (topRow ((k, c) :: M)) = 0 := by rw [htop, decide_eq_true ck]; decide
        have e168 : q_153_168 m (ofB false) (cs0 T p) (ofB (topRow ((k, c) :: M))) = if cat T p = 93 then q_153_173 m (ofB false) else q_153_186 m (cs0 T p) (ofB (topRow ((k, c) :: M))) := by
          unfold q_153_168
          by_cases c93 : cat T p = 93
          · rw [if_pos ((ce (by decide) (by decide)).mpr c93), if_neg o1, if_pos c93]
          · rw [if_neg (fun e => c93 ((ce (by decide) (by decide)).mp e)), if_neg c93]
        rw [if_neg o1, ite_self, e168]
        by_cases c93 : cat T p = 93
        · rw [if_pos c93]
          left
          obtain ⟨m', a1, a2, a3⟩ := clo (cat_eq c93 (by decide))
          refine ⟨(p + 1, M, false), m', ?_, a1, a2, a3, Nat.lt_succ_self _⟩
          unfold scM; dsimp only; rw [if_pos (Or.inr ⟨c93, ck⟩)]
        · rw [if_neg c93]
          exact fin (fun hh => hh.elim (fun h => h.2 ck) (fun h => c93 h.1))
      · have o1 : ofB (topRow ((k, c) :: M)) = 0 := by rw [htop, decide_eq_false ck]; rfl
        have e168 : q_153_168 m (ofB false) (cs0 T p) (ofB (topRow ((k, c) :: M))) = q_153_186 m (cs0 T p) (ofB (topRow ((k, c) :: M))) := by
          unfold q_153_168
          rw [if_pos o1, ite_self]
        rw [if_pos o1, e168]
        by_cases c41 : cat T p = 41
        · rw [if_pos ((ce (by decide) (by decide)).mpr c41)]
          left
          obtain ⟨m', a1, a2, a3⟩ := clo (cat_eq c41 (by decide))
          refine ⟨(p + 1, M, false), m', ?_, a1, a2, a3, Nat.lt_succ_self _⟩
          unfold scM; dsimp only; rw [if_pos (Or.inl ⟨c41, ck⟩)]
        · rw [if_neg (fun e => c41 ((ce (by decide) (by decide)).mp e))]
          exact fin (fun hh => hh.elim (fun h => c41 h.1) (fun h => ck h.2))
end S53
