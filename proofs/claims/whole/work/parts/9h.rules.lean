/-! ===== rules: the model looks for names without values ===== -/
def RB (T : List Int32) (c qr : Nat) (fe : Nat → Option VL) (df : Int32) (m : Hp) : Prop := ld T m ∧ FG c qr fe m ∧ c < 16 ∧ m 1076 77 = Int32.ofNat c ∧ m 1083 c = df ∧ m 1076 75 = 0 ∧ m 1076 76 < 0
/-- a name that is no head and has no value stands in [i, r) -/
def uns (T : List Int32) (fe : Nat → Option VL) (df : Int32) (i r : Nat) : Bool := anyb (fun j => lbt T i r j && !bt df j && (fe j).isNone) 26
/-- what an error leaves -/
def rvf (m m' : Hp) : Prop := w_fr (fun q => q = 1132 ∨ q = 1076) m m' ∧ ∀ b, b ≠ 75 → b ≠ 76 → m' 1076 b = m 1076 b
def l6G (T : List Int32) (c qr : Nat) (fe : Nat → Option VL) (df : Int32) (p r k i : Nat) (x : Int32) (m : Hp) (N : Nat) : Prop := (uns T fe df i r = false ∧ ∃ y m', w_lp (fun (s : Int32 × Int32 × Int32 × Hp) => l_213_6 qr s.1 s.2.1 s.2.2.1 s.2.2.2) (N + 1 + k) (x, Int32.ofNat p, Int32.ofNat i, m) = w_lp (fun (s : Int32 × Int32 × Int32 × Hp) => l_213_6 qr s.1 s.2.1 s.2.2.1 s.2.2.2) (N + 1) (y, Int32.ofNat p, Int32.ofNat r, m') ∧ RB T c qr fe df m' ∧ w_fr (fun q => q = 1132) m m' ∧ ∀ j, j < 32 → bt y j = (bt x j || (lbt T i r j && !bt df j && hld (fe j)))) ∨ (uns T fe df i r = true ∧ ∃ y m', w_lp (fun (s : Int32 × Int32 × Int32 × Hp) => l_213_6 qr s.1 s.2.1 s.2.2.1 s.2.2.2) (N + 1 + k) (x, Int32.ofNat p, Int32.ofNat i, m) = some (y, m') ∧ m' 1076 75 = 1 ∧ m' 1076 76 = Int32.ofNat p ∧ rvf m m')
section S9h
variable {T : List Int32} {c qr : Nat} {fe : Nat → Option VL} {df : Int32} {m m' : Hp}
theorem rvf_f (h : w_fr (fun q => q = 1132) m m') : rvf m m' := ⟨w_fr_mono h (fun q hq => Or.inl hq), fun b _ _ => by rw [h 1076 (by decide)]⟩
theorem rvf_trans {a b d : Hp} (x : rvf a b) (y : rvf b d) : rvf a d := ⟨w_fr_trans x.1 y.1, fun k h1 h2 => (y.2 k h1 h2).trans (x.2 k h1 h2)⟩
theorem RB_fr (hq : qres qr) (H : RB T c qr fe df m) (f : w_fr (fun q => q = 1132) m m') : RB T c qr fe df m' := by
  obtain ⟨h1, h2, h3, h4, h5, h6, h7⟩ := H
  have k := f 1076 (by decide)
  exact ⟨⟨h1.1, by rw [k]; exact h1.2.1, by rw [f 1127 (by decide)]; exact h1.2.2⟩, FG_evg h2 (evg_evf hq (evf_f f)), h3, by rw [k]; exact h4, by rw [f 1083 (by decide)]; exact h5, by rw [k]; exact h6, by rw [k]; exact h7⟩
theorem u_prd {i : Nat} (hi : 0 < i) : Int32.ofNat i - 1 = Int32.ofNat (i - 1) := u_subL (a := i) (n := 1) hi
theorem lb_at {i j : Nat} (hj : j < 26) (h : cat T i = Int32.ofNat (97 + j)) (k : Nat) (hk : k < 32) : lb T i k = decide (k = j) := by
  unfold lb
  rw [h, isL_nat hj, Bool.true_and]
  simp only [u_inj (show 97 + j < 2147483648 by omega) (show 97 + k < 2147483648 by omega), decide_eq_decide]
  omega
theorem lb_26 {i j : Nat} (hj : j < 32) (h : lb T i j = true) : j < 26 := by
  unfold lb at h
  simp only [Bool.and_eq_true, decide_eq_true_eq] at h
  obtain ⟨l, l1, l2, -⟩ := L_nat h.1
  have := (u_inj (a := 97 + l) (b := 97 + j) (by omega) (by omega)).mp (l2.symm.trans h.2)
  omega
/-- one place: no other name -/
theorem l6_no {i : Nat} {x x3 : Int32} (H : RB T c qr fe df m) (hi : i < T.length) (hno : ∀ j, j < 26 → cat T i = Int32.ofNat (97 + j) → bt df j = true) : l_213_6 qr x x3 (Int32.ofNat i) m = some (.inl (x, (if i = 0 then Int32.ofNat i else if cat T (i - 1) = 59 then Int32.ofNat i else x3), Int32.ofNat (i + 1), m)) := by
  obtain ⟨h1, h2, h3, h4, h5, h6, h7⟩ := H
  have hT := h1.1
  have hlt : Int32.ofNat i < m 1076 66 := by rw [h1.2.1]; exact (u_lt (by omega) (by omega)).mpr hi
  have hch : m 1127 i = cat T i := m_cat h1 hi
  unfold l_213_6
  rw [if_pos hlt, if_pos h6]
  have hx3 : ∀ A : Int32 → Option ((Int32 × Int32 × Int32 × Hp) ⊕ Int32 × Hp), w_gd (if Int32.ofNat i = 0 then true else w_ix (Int32.ofNat i - 1) 40) (A (if Int32.ofNat i = 0 then Int32.ofNat i else (if (m 1127 (Int32.ofNat i - 1).toNatClampNeg) = 59 then Int32.ofNat i else x3 : Int32) : Int32)) = A (if i = 0 then Int32.ofNat i else if cat T (i - 1) = 59 then Int32.ofNat i else x3) := by
    intro A
    by_cases i0 : i = 0
    · subst i0
      rw [if_pos (show Int32.ofNat 0 = 0 from rfl), if_pos (show Int32.ofNat 0 = 0 from rfl), if_pos rfl]; rfl
    · have hne : ¬ Int32.ofNat i = 0 := fun h => by
        have := (u_inj (a := i) (b := 0) (by omega) (by decide)).mp h
        exact i0 this
      rw [if_neg hne, if_neg hne, if_neg i0, u_prd (by omega), u_ix (by omega) (by decide), u_cl (by omega), m_cat h1 (show i - 1 < T.length by omega)]
      rfl
  rw [hx3]
  generalize (if i = 0 then Int32.ofNat i else if cat T (i - 1) = 59 then Int32.ofNat i else x3) = x3'
  unfold q_213_26
  rw [u_ix (by omega) (by decide), u_cl (by omega), hch, h4, u_ix h3 (by decide), u_cl (by omega), h5]
  simp only [Bool.and_self, ite_self, w_gd]
  have hs : (if v_148 (cat T i) = 0 then 0 else (if df &&& v_162 (cat T i) = 0 then 1 else 0 : Int32) : Int32) = 0 := by
    rw [m_148]
    cases hL : isL (cat T i) with
    | false => rw [if_pos (by rfl)]
    | true =>
      rw [if_neg (by decide)]
      obtain ⟨l, hl26, e1, -⟩ := L_nat hL
      rw [e1, s_162 hl26, if_neg (fun h => (u_bit (by omega)).mp h (hno l hl26 e1))]
  rw [hs]
  unfold q_213_48 q_213_64
  rw [if_pos rfl, if_pos rfl, or_0, u_S]
theorem m_212 (hq : qres qr) (H : RB T c qr fe df m) {j : Nat} (hj : j < 26) : ∃ m', p_212 m (Int32.ofNat (97 + j)) = some (ofB (hld (fe j)), m') ∧ w_fr (fun q => q = 1132) m m' := by
  obtain ⟨h1, h2, h3, h4, h5, h6, h7⟩ := H
  obtain ⟨g, b1, b2, b3⟩ := h2 m evg_refl j hj
  refine ⟨g, ?_, b3⟩
  unfold p_212
  rw [h4, b1]
  simp only [Option.bind_some]
  congr 2
  cases hf : fe j with
  | none => rfl
  | some v =>
    rw [hf] at b2
    rw [if_neg (show ¬ ofB (some v).isSome = 0 from (by decide : ¬ ofB true = 0))]
    cases v with
    | inl n =>
      have b21 : g 1132 1 = n := b2.2
      rw [if_pos (show g 1132 0 = -1 from b2.1)]
      show _ = ofB (decide (¬ n = 0))
      by_cases h0 : n = 0
      · rw [if_pos (b21.trans h0), decide_eq_false (fun h => h h0)]; rfl
      · rw [if_neg (fun h => h0 (b21.symm.trans h)), decide_eq_true h0]; rfl
    | inr l =>
      have h8 := b2.1
      have b20 : g 1132 0 = Int32.ofNat l.length := b2.2.1
      rw [if_neg (fun h => u_m1 (a := l.length) (by omega) (b20.symm.trans h))]
      show _ = ofB (decide (¬ l = []))
      by_cases h0 : l = []
      · subst h0
        rw [if_pos (by rw [b20]; decide)]; rfl
      · have hne : ¬ Int32.ofNat l.length ≤ 0 := fun hh => by
          have := (u_leL (a := l.length) (n := 0) (by omega) (by decide)).mp hh
          exact h0 (List.length_eq_zero_iff.mp (by omega))
        rw [if_neg (by rw [b20]; exact hne), decide_eq_true h0]; rfl
/-- one place: another name -/
theorem l6_yes (hq : qres qr) {i j : Nat} {x x3 : Int32} (H : RB T c qr fe df m) (hi : i < T.length) (h0 : 0 < i) (h59 : ¬ cat T (i - 1) = 59) (hj : j < 26) (hc : cat T i = Int32.ofNat (97 + j)) (hd : ¬ bt df j = true) : (∀ v, fe j = some v → ∃ y m', l_213_6 qr x x3 (Int32.ofNat i) m = some (.inl (y, x3, Int32.ofNat (i + 1), m')) ∧ RB T c qr fe df m' ∧ w_fr (fun q => q = 1132) m m' ∧ ∀ k, k < 32 → bt y k = (bt x k || (decide (k = j) && hld (fe j)))) ∧ (fe j = none → ∃ y m', l_213_6 qr x x3 (Int32.ofNat i) m = some (.inl (y, x3, Int32.ofNat (i + 1), m')) ∧ m' 1076 75 = 1 ∧ m' 1076 76 = x3 ∧ rvf m m') := by
  have HH := H
  obtain ⟨h1, h2, h3, h4, h5, h6, h7⟩ := H
  have hT := h1.1
  have hlt : Int32.ofNat i < m 1076 66 := by rw [h1.2.1]; exact (u_lt (by omega) (by omega)).mpr hi
  have hch : m 1127 i = cat T i := m_cat h1 hi
  have hne : ¬ Int32.ofNat i = 0 := fun h => by
    have := (u_inj (a := i) (b := 0) (by omega) (by decide)).mp h
    omega
  obtain ⟨g, b1, b2, b3⟩ := h2 m evg_refl j hj
  have G := RB_fr hq HH b3
  have beg : l_213_6 qr x x3 (Int32.ofNat i) m = if ofB (fe j).isSome = 0 then ((p_195 g 1 x3).bind fun z => q_213_64 z qr x x3 (Int32.ofNat i) 1) else q_213_64 g qr x x3 (Int32.ofNat i) 1 := by
    unfold l_213_6
    rw [if_pos hlt, if_pos h6, if_neg hne, if_neg hne, u_prd h0, u_ix (by omega) (by decide), u_cl (by omega), m_cat h1 (show i - 1 < T.length by omega), if_neg h59]
    simp only [w_gd]
    unfold q_213_26
    rw [u_ix (by omega) (by decide), u_cl (by omega), hch, h4, u_ix h3 (by decide), u_cl (by omega), h5]
    simp only [Bool.and_self, ite_self, w_gd]
    have hs : (if v_148 (cat T i) = 0 then 0 else (if df &&& v_162 (cat T i) = 0 then 1 else 0 : Int32) : Int32) = 1 := by
      rw [m_148, hc, isL_nat hj, if_neg (by decide), s_162 hj, if_pos ((u_bit (by omega)).mpr hd)]
    rw [hs]
    unfold q_213_48
    rw [if_neg (by decide), u_ix (by omega) (by decide), u_cl (by omega), hch, hc, h4]
    simp only [w_gd]
    rw [b1]
    rfl
  rw [beg]
  refine ⟨fun v hv => ?_, fun hv => ?_⟩
  · rw [hv, if_neg (show ¬ ofB (some v).isSome = 0 from (by decide : ¬ ofB true = 0))]
    obtain ⟨g2, c1, c2⟩ := m_212 hq G hj
    have G2 := RB_fr hq G c2
    have gch : g 1127 i = Int32.ofNat (97 + j) := by rw [b3 1127 (by decide), hch, hc]
    have g2ch : g2 1127 i = Int32.ofNat (97 + j) := by rw [c2 1127 (by decide), gch]
    unfold q_213_64
    rw [if_neg (by decide), if_pos G.2.2.2.2.2.1, u_ix (by omega) (by decide), u_cl (by omega), gch]
    simp only [w_gd]
    rw [c1]
    simp only [Option.bind_some, ite_self, w_gd]
    rw [g2ch, s_162 hj, u_S, hv]
    refine ⟨_, g2, rfl, G2, w_fr_trans b3 c2, fun k hk => ?_⟩
    rw [bt_or]
    cases hld (some v) with
    | true => rw [if_neg (by decide), bt_one (by omega), Bool.and_true]
    | false => rw [if_pos (by rfl), bt_zero, Bool.and_false]
  · rw [hv, if_pos (by rfl)]
    obtain ⟨g2, a1, a2, a3, a4, a5⟩ := m_195 (m := g) (e := 1) (x := x3) G.2.2.2.2.2.1 G.2.2.2.2.2.2 (by decide)
    rw [a1]
    simp only [Option.bind_some]
    unfold q_213_64
    rw [if_neg (by decide), if_neg (by rw [a2]; decide), or_0, u_S]
    exact ⟨x, g2, rfl, a2, a3, rvf_trans (rvf_f b3) ⟨w_fr_mono a4 (fun q hq => Or.inr hq), fun b n1 n2 => a5 b n1 n2⟩⟩
/-- a stretch of a clause -/
theorem l6_seg (hq : qres qr) {p r : Nat} (hr : r ≤ T.length) (h59 : ∀ i, p ≤ i → i < r → ¬ cat T i = 59) : ∀ (k i : Nat) (x : Int32) (m : Hp) (N : Nat), i + k = r → p < i → RB T c qr fe df m → l6G T c qr fe df p r k i x m N := by
  intro k
  induction k with
  | zero =>
    intro i x m N hk hp H
    have e : i = r := by omega
    subst e
    left
    refine ⟨?_, x, m, rfl, H, w_fr_refl _ _, fun j _ => by rw [lbt_self]; simp⟩
    cases h : uns T fe df i i with
    | false => rfl
    | true =>
      obtain ⟨j, -, hj⟩ := (anyb_iff 26).mp h
      rw [lbt_self] at hj; simp at hj
  | succ k ih =>
    intro i x m N hk hp H
    have hi : i < T.length := by omega
    have add : ∀ j, lbt T i r j = (lb T i j || lbt T (i + 1) r j) := fun j => by
      rw [lbt_add (q := i + 1) (Nat.le_succ _) (by omega), lbt_1]
    have h591 : ¬ cat T (i - 1) = 59 := h59 (i - 1) (by omega) (by omega)
    have hi0 : ¬ i = 0 := by omega
    have skip : (∀ j, j < 26 → lb T i j = true → bt df j = true) → l_213_6 qr x (Int32.ofNat p) (Int32.ofNat i) m = some (.inl (x, Int32.ofNat p, Int32.ofNat (i + 1), m)) → l6G T c qr fe df p r (k + 1) i x m N := fun hno hst => by
      have hu : uns T fe df i r = uns T fe df (i + 1) r := by
        unfold uns
        refine anyb_congr 26 (fun j hj => ?_)
        rw [add j]
        cases hl : lb T i j with
        | false => rfl
        | true => rw [hno j hj hl]; simp
      rcases ih (i + 1) x m N (by omega) (by omega) H with ⟨a1, y, m', a2, a3, a4, a5⟩ | ⟨a1, y, m', a2, a3⟩
      · refine Or.inl ⟨hu.trans a1, y, m', ?_, a3, a4, fun j hj => ?_⟩
        · show w_lp _ (N + 1 + k + 1) _ = _
          simp only [w_lp, hst]
          exact a2
        · rw [a5 j hj, add j]
          cases hl : lb T i j with
          | false => rfl
          | true => rw [hno j (lb_26 hj hl) hl]; simp
      · refine Or.inr ⟨hu.trans a1, y, m', ?_, a3⟩
        show w_lp _ (N + 1 + k + 1) _ = _
        simp only [w_lp, hst]
        exact a2
    by_cases hL : isL (cat T i) = true
    · obtain ⟨l, hl26, e1, -⟩ := L_nat hL
      have hlb := lb_at hl26 e1
      by_cases hd : bt df l = true
      · have hst := l6_no (x := x) (x3 := Int32.ofNat p) H hi (fun j hj hc => by
          have := hlb j (by omega)
          have e2 : lb T i j = true := by unfold lb; rw [hc, isL_nat hj]; simp
          rw [e2] at this
          have : j = l := by simpa using this.symm
          rw [this]; exact hd)
        rw [if_neg hi0, if_neg h591] at hst
        refine skip (fun j hj hl => ?_) hst
        rw [hlb j (by omega)] at hl
        have : j = l := by simpa using hl
        rw [this]; exact hd
      · obtain ⟨s1, s2⟩ := l6_yes hq (x := x) (x3 := Int32.ofNat p) H hi (by omega) h591 hl26 e1 hd
        cases hf : fe l with
        | none =>
          obtain ⟨y, m', b1, b2, b3, b4⟩ := s2 hf
          right
          refine ⟨(anyb_iff 26).mpr ⟨l, hl26, ?_⟩, y, m', ?_, b2, b3, b4⟩
          · have hd' : bt df l = false := by simpa using hd
            rw [add l, hlb l (by omega), hf, hd']; simp
          · show w_lp _ (N + 1 + k + 1) _ = _
            simp only [w_lp, b1]
            rw [show N + 1 + k = (N + k) + 1 by omega]
            have hst2 : l_213_6 qr y (Int32.ofNat p) (Int32.ofNat (i + 1)) m' = some (.inr (y, m')) := by
              unfold l_213_6
              by_cases hh : Int32.ofNat (i + 1) < m' 1076 66
              · rw [if_pos hh, if_neg (by rw [b2]; decide)]
              · rw [if_neg hh]
            simp only [w_lp, hst2]
        | some v =>
          obtain ⟨y, m1, b1, b2, b3, b4⟩ := s1 v hf
          have hu : uns T fe df i r = uns T fe df (i + 1) r := by
            unfold uns
            refine anyb_congr 26 (fun j hj => ?_)
            rw [add j, hlb j (by omega)]
            by_cases ej : j = l
            · subst ej; rw [hf]; simp
            · simp [ej]
          rcases ih (i + 1) y m1 N (by omega) (by omega) b2 with ⟨a1, z, m', a2, a3, a4, a5⟩ | ⟨a1, z, m', a2, a3, a4, a5⟩
          · refine Or.inl ⟨hu.trans a1, z, m', ?_, a3, w_fr_trans b3 a4, fun j hj => ?_⟩
            · show w_lp _ (N + 1 + k + 1) _ = _
              simp only [w_lp, b1]
              exact a2
            · rw [a5 j hj, b4 j hj, add j, hlb j (by omega)]
              have hd' : bt df l = false := by simpa using hd
              by_cases ej : j = l
              · subst ej; rw [hd']
                cases bt x j <;> cases hld (fe j) <;> simp
              · simp [ej]
          · refine Or.inr ⟨hu.trans a1, z, m', ?_, a3, a4, rvf_trans (rvf_f b3) a5⟩
            show w_lp _ (N + 1 + k + 1) _ = _
            simp only [w_lp, b1]
            exact a2
    · have hst := l6_no (x := x) (x3 := Int32.ofNat p) H hi (fun j hj hc => absurd (by rw [hc]; exact isL_nat hj) hL)
      rw [if_neg hi0, if_neg h591] at hst
      exact skip (fun j hj hl => by rw [lb_no hL] at hl; cases hl) hst
end S9h
