/-! ===== rules: the model, clause by clause ===== -/
section S9i
variable {T : List Int32} {c qr : Nat} {e fe : Nat → Option VL} {df us : Int32} {m m' : Hp}
theorem CLS_end {C : List ST} (h : CLS T C (T.length + 1)) : C = [] := by
  cases C with
  | nil => rfl
  | cons a C =>
    obtain ⟨r, h, h1, h2, -⟩ := h
    omega
theorem unt_uns {B : Int32} {i r : Nat} (hr : r ≤ T.length) (hB : ∀ j, j < 32 → bt B j = lbt T i r j) (hu : ∀ j, j < 26 → bt us j = (lbt T 0 T.length j && !bt df j)) (he : ∀ j, j < 26 → bt us j = true → e j = fe j) : unt e us B = uns T fe df i r := by
  unfold unt uns
  refine anyb_congr 26 (fun j hj => ?_)
  rw [bt_and, hB j (by omega)]
  cases hl : lbt T i r j with
  | false => rfl
  | true =>
    obtain ⟨k, k1, k2, k3⟩ := lbt_iff.mp hl
    have hl0 : lbt T 0 T.length j = true := lbt_iff.mpr ⟨k, Nat.zero_le _, by omega, k3⟩
    have hu' := hu j hj
    rw [hl0, Bool.true_and] at hu'
    rw [hu']
    cases hd : bt df j with
    | true => rfl
    | false => rw [he j hj (by rw [hu', hd]; rfl)]
theorem m_213a (hq : qres qr) (hu : ∀ j, j < 26 → bt us j = (lbt T 0 T.length j && !bt df j)) (he : ∀ j, j < 26 → bt us j = true → e j = fe j) : ∀ (C : List ST) (p : Nat) (x x3 : Int32) (m : Hp) (N : Nat), CLS T C p → C ≠ [] → (p = 0 ∨ cat T (p - 1) = 59) → (∀ a ∈ C, ∃ h, h < 26 ∧ a.1 = Int32.ofNat h ∧ bt df h = true) → RB T c qr fe df m → T.length + 3 ≤ N + p → (∃ a y m', C.find? (fun a => unt e us a.2.1) = some a ∧ w_lp (fun (s : Int32 × Int32 × Int32 × Hp) => l_213_6 qr s.1 s.2.1 s.2.2.1 s.2.2.2) N (x, x3, Int32.ofNat p, m) = some (y, m') ∧ m' 1076 75 = 1 ∧ m' 1076 76 = a.2.2 ∧ rvf m m') ∨ (C.find? (fun a => unt e us a.2.1) = none ∧ ∃ y m', w_lp (fun (s : Int32 × Int32 × Int32 × Hp) => l_213_6 qr s.1 s.2.1 s.2.2.1 s.2.2.2) N (x, x3, Int32.ofNat p, m) = some (y, m') ∧ RB T c qr fe df m' ∧ w_fr (fun q => q = 1132) m m' ∧ ∀ j, j < 32 → bt y j = (bt x j || (lbt T p T.length j && !bt df j && hld (fe j)))) := by
  intro C
  induction C with
  | nil => intro p x x3 m N _ h; exact absurd rfl h
  | cons a C ih =>
    intro p x x3 m N hC _ hp hh H hN
    obtain ⟨r, l, h1, h2, h3, h4, h5, h6, h7, h8, h9, h10⟩ := hC
    obtain ⟨l', l1, l2, l3⟩ := hh a (List.mem_cons_self ..)
    have el : l = l' := (u_inj (a := l) (b := l') (by omega) (by omega)).mp (h5.symm.trans l2)
    subst el
    have hlb := lb_at h3 h4
    obtain ⟨N, rfl⟩ : ∃ k, N = (k + 1 + (r - (p + 1))) + 1 := ⟨N - 2 - (r - (p + 1)), by omega⟩
    have hst := l6_no (x := x) (x3 := x3) H (show p < T.length by omega) (fun j hj hc => by
      have h97 : j = l := by
        have := (u_inj (a := 97 + j) (b := 97 + l) (by omega) (by omega)).mp (hc.symm.trans h4)
        omega
      rw [h97]; exact l3)
    have hx3 : (if p = 0 then Int32.ofNat p else if cat T (p - 1) = 59 then Int32.ofNat p else x3) = Int32.ofNat p := by
      rcases hp with h | h
      · rw [if_pos h]
      · by_cases h0 : p = 0
        · rw [if_pos h0]
        · rw [if_neg h0, if_pos h]
    rw [hx3] at hst
    have eu := unt_uns (T := T) (e := e) (fe := fe) (us := us) (df := df) h2 h8 hu he
    have lb0 : ∀ j, j < 32 → (lb T p j && !bt df j && hld (fe j)) = false := fun j hj => by
      rw [hlb j (by omega)]
      by_cases ej : j = l
      · subst ej; rw [l3]; simp
      · simp [ej]
    rcases l6_seg hq (df := df) (fe := fe) (c := c) h2 h7 (r - (p + 1)) (p + 1) x m N (by omega) (Nat.lt_succ_self _) H with ⟨a1, y, m1, a2, a3, a4, a5⟩ | ⟨a1, y, m1, a2, a3, a4, a5⟩
    · have hf0 : unt e us a.2.1 = false := eu.trans a1
      rw [List.find?_cons, hf0]
      simp only
      rcases h9 with h9 | h9
      · -- the end of the text
        subst h9
        have hC0 := CLS_end h10
        subst hC0
        right
        refine ⟨rfl, y, m1, ?_, a3, a4, fun j hj => ?_⟩
        · simp only [w_lp, hst]
          rw [a2]
          have hst2 : l_213_6 qr y (Int32.ofNat p) (Int32.ofNat T.length) m1 = some (.inr (y, m1)) := by
            unfold l_213_6
            have hT := a3.1.1
            have hh : ¬ Int32.ofNat T.length < m1 1076 66 := by
              rw [a3.1.2.1]; intro hh
              have := (u_lt (by omega) (by omega)).mp hh
              omega
            rw [if_neg hh]
          simp only [w_lp, hst2]
        · rw [a5 j hj, lbt_add (p := p) (q := p + 1) (r := T.length) (Nat.le_succ _) h1, lbt_1]
          have := lb0 j hj
          cases hx : bt x j <;> cases hl1 : lb T p j <;> cases hl2 : lbt T (p + 1) T.length j <;> cases hd : bt df j <;> cases hv : hld (fe j) <;> simp_all
      · -- another clause
        have hlt := cat_eq h9 (by decide)
        obtain ⟨N, rfl⟩ : ∃ k, N = k + 1 := ⟨N - 1, by omega⟩
        have hst2 := l6_no (x := y) (x3 := Int32.ofNat p) a3 hlt (fun j hj hc => by
          rw [h9] at hc
          have : ∀ j, j < 26 → ¬ (59 : Int32) = Int32.ofNat (97 + j) := by decide
          exact absurd hc (this j hj))
        generalize hx3' : (if r = 0 then Int32.ofNat r else if cat T (r - 1) = 59 then Int32.ofNat r else Int32.ofNat p) = x3' at hst2
        have lbr : ∀ j, lb T r j = false := fun j => lb_no (by rw [h9]; decide)
        have hne : C ≠ [] := by
          intro h; subst h
          have h10' : r + 1 = T.length + 1 := h10
          omega
        have step : w_lp (fun (s : Int32 × Int32 × Int32 × Hp) => l_213_6 qr s.1 s.2.1 s.2.2.1 s.2.2.2) (N + 1 + 1 + (r - (p + 1)) + 1) (x, x3, Int32.ofNat p, m) = w_lp (fun (s : Int32 × Int32 × Int32 × Hp) => l_213_6 qr s.1 s.2.1 s.2.2.1 s.2.2.2) (N + 1) (y, x3', Int32.ofNat (r + 1), m1) := by
          simp only [w_lp, hst]
          rw [a2]
          simp only [w_lp, hst2]
        rw [step]
        have add : ∀ j, lbt T p T.length j = (lb T p j || lbt T (p + 1) r j || lbt T (r + 1) T.length j) := fun j => by
          rw [lbt_add (p := p) (q := p + 1) (r := T.length) (Nat.le_succ _) (by omega), lbt_1, lbt_add (p := p + 1) (q := r) (r := T.length) h1 h2, lbt_add (p := r) (q := r + 1) (r := T.length) (Nat.le_succ _) hlt, lbt_1, lbr j, Bool.false_or, Bool.or_assoc]
        rcases ih (r + 1) y x3' m1 (N + 1) h10 hne (Or.inr h9) (fun b hb => hh b (List.mem_cons_of_mem _ hb)) a3 (by omega) with ⟨b, z, m2, c1, c2, c3, c4, c5⟩ | ⟨c1, z, m2, c2, c3, c4, c5⟩
        · exact Or.inl ⟨b, z, m2, c1, c2, c3, c4, rvf_trans (rvf_f a4) c5⟩
        · refine Or.inr ⟨c1, z, m2, c2, c3, w_fr_trans a4 c4, fun j hj => ?_⟩
          rw [c5 j hj, a5 j hj, add j]
          have := lb0 j hj
          cases hx : bt x j <;> cases hl1 : lb T p j <;> cases hl2 : lbt T (p + 1) r j <;> cases hl3 : lbt T (r + 1) T.length j <;> cases hd : bt df j <;> cases hv : hld (fe j) <;> simp_all
    · left
      have hf0 : unt e us a.2.1 = true := eu.trans a1
      refine ⟨a, y, m1, by rw [List.find?_cons, hf0], ?_, a3, by rw [a4, h6], a5⟩
      simp only [w_lp, hst]
      exact a2
/-! the heads that hold -/
/-- all names of [i, r) hold -/
def alh (T : List Int32) (x : Int32) (i r : Nat) : Bool := !anyb (fun j => lbt T i r j && !bt x j) 26
theorem alh_self {x : Int32} {i : Nat} : alh T x i i = true := by
  unfold alh
  cases h : anyb (fun j => lbt T i i j && !bt x j) 26 with
  | false => rfl
  | true =>
    obtain ⟨j, -, hj⟩ := (anyb_iff 26).mp h
    rw [lbt_self] at hj; simp at hj
theorem alh_S {x : Int32} {p i : Nat} (hpi : p ≤ i) : alh T x p (i + 1) = (alh T x p i && !anyb (fun j => lb T i j && !bt x j) 26) := by
  unfold alh
  have e : anyb (fun j => lbt T p (i + 1) j && !bt x j) 26 = (anyb (fun j => lbt T p i j && !bt x j) 26 || anyb (fun j => lb T i j && !bt x j) 26) := by
    rw [Bool.eq_iff_iff, Bool.or_eq_true, anyb_iff, anyb_iff, anyb_iff]
    constructor
    · rintro ⟨j, h1, h2⟩
      rw [lbt_add (q := i) hpi (Nat.le_succ _), lbt_1] at h2
      simp only [Bool.and_eq_true, Bool.or_eq_true] at h2
      rcases h2 with ⟨h2 | h2, h3⟩
      · exact Or.inl ⟨j, h1, by simp only [Bool.and_eq_true]; exact ⟨h2, h3⟩⟩
      · exact Or.inr ⟨j, h1, by simp only [Bool.and_eq_true]; exact ⟨h2, h3⟩⟩
    · rintro (⟨j, h1, h2⟩ | ⟨j, h1, h2⟩)
      · refine ⟨j, h1, ?_⟩
        simp only [Bool.and_eq_true] at h2 ⊢
        rw [lbt_add (q := i) hpi (Nat.le_succ _), h2.1]
        exact ⟨rfl, h2.2⟩
      · refine ⟨j, h1, ?_⟩
        simp only [Bool.and_eq_true] at h2 ⊢
        rw [lbt_add (q := i) hpi (Nat.le_succ _), lbt_1, h2.1, Bool.or_true]
        exact ⟨rfl, h2.2⟩
  rw [e, Bool.not_or]
theorem l105_seg {g : Hp} {p r : Nat} {x x4 : Int32} {h : Int32} (H : ld T g) (hr : r ≤ T.length) (h59 : ∀ i, p ≤ i → i < r → ¬ cat T i = 59) : ∀ (k i : Nat) (N : Nat), i + k = r → p < i → w_lp (fun (s : Int32 × Int32 × Int32 × Int32 × Int32) => l_213_105 g qr s.1 s.2.1 s.2.2.1 s.2.2.2.1 s.2.2.2.2) (N + k) (x, x4, h, ofB (alh T x (p + 1) i), Int32.ofNat i) = w_lp (fun (s : Int32 × Int32 × Int32 × Int32 × Int32) => l_213_105 g qr s.1 s.2.1 s.2.2.1 s.2.2.2.1 s.2.2.2.2) N (x, x4, h, ofB (alh T x (p + 1) r), Int32.ofNat r) := by
  intro k
  have hT := H.1
  induction k with
  | zero => intro i N hk _; rw [show i = r by omega]; rfl
  | succ k ih =>
    intro i N hk hp
    have hi : i < T.length := by omega
    have hch : g 1127 i = cat T i := m_cat H hi
    have hle : Int32.ofNat i ≤ g 1076 66 := by rw [H.2.1]; exact (u_le (by omega) (by omega)).mpr (by omega)
    have hne : ¬ Int32.ofNat i = g 1076 66 := by
      rw [H.2.1]; intro hh
      have := (u_inj (by omega) (by omega)).mp hh
      omega
    have hn0 : ¬ Int32.ofNat i = 0 := fun hh => by
      have := (u_inj (a := i) (b := 0) (by omega) (by decide)).mp hh
      omega
    have hst : l_213_105 g qr x x4 h (ofB (alh T x (p + 1) i)) (Int32.ofNat i) = some (.inl (x, x4, h, ofB (alh T x (p + 1) (i + 1)), Int32.ofNat (i + 1))) := by
      unfold l_213_105
      rw [if_pos hle, if_neg hne, if_neg hne, u_ix (by omega) (by decide), u_cl (by omega), hch, if_neg (h59 i (by omega) (by omega))]
      simp only [w_gd]
      unfold q_213_122
      rw [if_pos rfl]
      unfold q_213_137
      rw [if_pos rfl, if_neg hn0, u_prd (by omega), u_ix (by omega) (by decide), u_cl (by omega), m_cat H (show i - 1 < T.length by omega), if_neg (h59 (i - 1) (by omega) (by omega))]
      simp only [w_gd]
      unfold q_213_158
      rw [if_pos rfl, u_ix (by omega) (by decide), u_cl (by omega), hch, u_S, alh_S (by omega), m_148]
      simp only [w_gd, ite_self]
      by_cases hL : isL (cat T i) = true
      · rw [hL, if_neg (by decide)]
        obtain ⟨l, hl26, e1, -⟩ := L_nat hL
        have hlb := lb_at hl26 e1
        have ea : anyb (fun j => lb T i j && !bt x j) 26 = !bt x l := by
          cases hx : bt x l with
          | true =>
            cases hh : anyb (fun j => lb T i j && !bt x j) 26 with
            | false => rfl
            | true =>
              obtain ⟨j, j1, j2⟩ := (anyb_iff 26).mp hh
              rw [hlb j (by omega)] at j2
              simp only [Bool.and_eq_true, decide_eq_true_eq] at j2
              rw [j2.1, hx] at j2; simp at j2
          | false => exact (anyb_iff 26).mpr ⟨l, hl26, by rw [hlb l (by omega), hx]; simp⟩
        rw [ea, e1, s_162 hl26, Bool.not_not]
        congr 5
        cases alh T x (p + 1) i with
        | false => rw [if_pos (by rfl)]; rfl
        | true =>
          rw [if_neg (by decide)]
          by_cases hx : bt x l = true
          · rw [if_neg (fun h => (u_bit (by omega)).mp h hx), hx]; rfl
          · have hx' : bt x l = false := by simpa using hx
            rw [if_pos ((u_bit (by omega)).mpr hx), hx']; rfl
      · have hL' : isL (cat T i) = false := by simpa using hL
        have ea : anyb (fun j => lb T i j && !bt x j) 26 = false := by
          cases hh : anyb (fun j => lb T i j && !bt x j) 26 with
          | false => rfl
          | true =>
            obtain ⟨j, -, j2⟩ := (anyb_iff 26).mp hh
            rw [lb_no hL] at j2; simp at j2
        rw [hL', if_pos (by rfl), ea, Bool.not_false, Bool.and_true]
    have i1 := ih (i + 1) N (by omega) (by omega)
    show w_lp _ (N + k + 1) _ = _
    simp only [w_lp, hst]
    exact i1
theorem alh_cond {B x : Int32} {i r : Nat} (hB : ∀ j, j < 32 → bt B j = lbt T i r j) : (B &&& (x ^^^ (-1)) = 0) ↔ alh T x i r = true := by
  unfold alh
  rw [Bool.not_eq_true', bt_0iff]
  constructor
  · intro h
    cases hh : anyb (fun j => lbt T i r j && !bt x j) 26 with
    | false => rfl
    | true =>
      obtain ⟨j, j1, j2⟩ := (anyb_iff 26).mp hh
      have := h j (by omega)
      rw [bt_and, bt_not (by omega), hB j (by omega)] at this
      rw [this] at j2; cases j2
  · intro h j hj
    rw [bt_and, bt_not hj, hB j hj]
    cases hl : lbt T i r j with
    | false => rfl
    | true =>
      cases hx : bt x j with
      | true => rfl
      | false =>
        have h26 : j < 26 := by
          obtain ⟨k, k1, k2, k3⟩ := lbt_iff.mp hl
          unfold lb at k3
          simp only [Bool.and_eq_true, decide_eq_true_eq] at k3
          obtain ⟨l, l1, l2, -⟩ := L_nat k3.1
          have := (u_inj (a := 97 + l) (b := 97 + j) (by omega) (by omega)).mp (l2.symm.trans k3.2)
          omega
        have : anyb (fun j => lbt T i r j && !bt x j) 26 = true := (anyb_iff 26).mpr ⟨j, h26, by rw [hl, hx]; rfl⟩
        rw [this] at h; cases h
end S9i
