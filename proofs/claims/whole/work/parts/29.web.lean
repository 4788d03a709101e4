/-! ===== sets that loops build; the class's web ===== -/
def sbo (f : Nat → Bool) (o : Nat) : Nat → Int32
  | 0 => 0
  | i + 1 => sbo f o i ||| (if f i = true then 1 <<< (Int32.ofNat (o + i) &&& 31) else 0)
theorem bt_if {c : Bool} {k j : Nat} (hk : k < 32) : bt (if c = true then 1 <<< (Int32.ofNat k &&& 31) else 0) j = (c && decide (j = k)) := by
  cases c
  · simp [bt_zero]
  · simp [bt_one hk]
theorem bt_sbo {f : Nat → Bool} {o : Nat} : ∀ n j, o + n ≤ 32 → bt (sbo f o n) j = (decide (o ≤ j) && (decide (j < o + n) && f (j - o))) := by
  intro n j
  induction n with
  | zero => intro _; simp only [sbo, bt_zero]; grind
  | succ n ih =>
    intro h
    rw [sbo, bt_or, ih (by omega), bt_if (by omega)]
    grind
theorem sbo_congr {f g : Nat → Bool} {o : Nat} : ∀ n, (∀ i, i < n → f i = g i) → sbo f o n = sbo g o n := by
  intro n
  induction n with
  | zero => intro _; rfl
  | succ n ih => intro h; grind [sbo]
/-- from where the cell c has the name x: ch who changes it, df who defines it -/
def gvb (df ch : Nat → Bool) (c i : Nat) : Bool := match lst (fun k => ch k && (!ch c || decide (k < c))) 16 with
  | some l => decide (i = l)
  | none => df i && decide (i ≠ c)
theorem u_low {c : Nat} (hc : c < 16) {i : Nat} : bt ((1 <<< (Int32.ofNat c &&& 31)) - 1) i = decide (i < c) := by
  by_cases hi : i < 32
  · have : ∀ c, c < 16 → ∀ i, i < 32 → bt ((1 <<< (Int32.ofNat c &&& 31)) - 1) i = decide (i < c) := by decide +kernel
    exact this c hc i hi
  · rw [bt_ge (by omega)]; symm; apply decide_eq_false; omega
theorem u_all {i : Nat} : bt 65535 i = decide (i < 16) := by
  by_cases hi : i < 32
  · have : ∀ i, i < 32 → bt 65535 i = decide (i < 16) := by decide +kernel
    exact this i hi
  · rw [bt_ge (by omega)]; symm; apply decide_eq_false; omega
theorem oi_m1 {o : Option Nat} {n : Nat} (h : ∀ k, o = some k → k < n) (hn : n ≤ 2147483648) : oi o = -1 ↔ o = none := by
  cases o with
  | none => simp [oi]
  | some k =>
    have := h k rfl
    constructor
    · intro e
      have e2 := u_lt0 (a := k) (by omega)
      simp only [oi] at e
      rw [e] at e2; exact absurd (by decide) e2
    · intro e; cases e
theorem s_81 {h : Hp} {c x : Nat} {df ch : Nat → Bool} (hc : c < 16) (hx : x < 26) (hd : ∀ i, bt (h 12 x) i = df i) (hh : ∀ i, bt (h 13 x) i = ch i) (h16 : ∀ i, 16 ≤ i → ch i = false) : ∃ r, p_81 h (Int32.ofNat c) (Int32.ofNat x) = some r ∧ ∀ i, i < 32 → bt r i = gvb df ch c i := by
  have hl : ∀ s0 : Int32, (∀ i, bt s0 i = (decide (i < 16) && (!ch c || decide (i < c)))) → ∃ r, q_81_21 h (Int32.ofNat c) (Int32.ofNat x) s0 = some r ∧ ∀ i, i < 32 → bt r i = gvb df ch c i := by
    intro s0 hs
    unfold q_81_21
    rw [u_ix hx (by omega), u_cl (by omega), s_127]
    simp only [w_gd, Option.bind_some]
    have e1 : lst (bt (h 13 x &&& s0)) 20 = lst (fun k => ch k && (!ch c || decide (k < c))) 16 := by
      rw [lst_ext (n := 16) 20 (by omega) (fun i h1 h2 => by rw [bt_and, hs]; grind)]
      exact lst_congr 16 (fun i hi => by rw [bt_and, hs, hh]; grind)
    rw [e1]
    have e2 := oi_m1 (o := lst (fun k => ch k && (!ch c || decide (k < c))) 16) (n := 16) (fun k hk => (lst_lt _ hk).1) (by omega)
    cases hl : lst (fun k => ch k && (!ch c || decide (k < c))) 16 with
    | none =>
      rw [hl] at e2
      rw [if_pos (e2.mpr rfl), if_pos (e2.mpr rfl)]
      refine ⟨_, rfl, fun i hi => ?_⟩
      rw [bt_and, bt_not hi, bt_one (by omega), hd]
      simp only [gvb, hl]
      grind
    | some l =>
      have h3 : ¬ oi (some l) = -1 := by
        intro e; rw [hl] at e2; exact absurd (e2.mp e) (by simp)
      rw [if_neg h3, if_neg h3]
      have := (lst_lt _ hl).1
      refine ⟨_, rfl, fun i hi => ?_⟩
      simp only [oi]
      rw [bt_one (by omega)]
      simp only [gvb, hl]
  unfold p_81
  rw [if_neg (u_lt0 (by omega)), if_pos ((u_ltL (by omega) (by omega)).mpr hx), u_ix hx (by omega), u_cl (by omega), u_has (by omega), hh]
  simp only [w_gd]
  refine hl _ ?_
  intro i
  cases hcc : ch c with
  | true => 
    simp only [if_true, Bool.not_true, Bool.false_or]
    rw [if_neg (by decide), u_low hc]
    grind
  | false =>
    simp only [Bool.false_eq_true, if_false, if_true, Bool.not_false, Bool.true_or]
    rw [u_all]
    grind
