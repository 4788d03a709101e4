/-! ===== last and first places; sets as numbers; the model's widgetOf, changer, definer, giver; the class's greatest, givers ===== -/
def lst (f : Nat → Bool) : Nat → Option Nat
  | 0 => none
  | n + 1 => if f n then some n else lst f n
def oi : Option Nat → Int32
  | none => -1
  | some k => Int32.ofNat k
theorem lst_lt {f : Nat → Bool} {k : Nat} : ∀ n, lst f n = some k → k < n ∧ f k = true := by
  intro n
  induction n with
  | zero => intro h; cases h
  | succ n ih => intro h; grind [lst]
theorem lst_none {f : Nat → Bool} : ∀ n, lst f n = none → ∀ i, i < n → f i = false := by
  intro n
  induction n with
  | zero => intro _ i hi; omega
  | succ n ih => intro h i hi; grind [lst]
theorem lst_congr {f g : Nat → Bool} : ∀ n, (∀ i, i < n → f i = g i) → lst f n = lst g n := by
  intro n
  induction n with
  | zero => intro _; rfl
  | succ n ih => intro h; grind [lst]
/-- the same from more places, if no more hold -/
theorem lst_ext {f : Nat → Bool} {n : Nat} : ∀ m, n ≤ m → (∀ i, n ≤ i → i < m → f i = false) → lst f m = lst f n := by
  intro m hm
  induction hm with
  | refl => intro _; rfl
  | step hm ih => intro h; grind [lst]
theorem s_170 {h : Hp} {n : Nat} {x : Int32} (hn : h 1076 48 = Int32.ofNat n) (h4 : n ≤ 4) : p_170 h x = some (oi (lst (fun w => decide (h 1112 w = x)) n)) := by
  unfold p_170
  refine u_for (fun i => (oi (lst (fun w => decide (h 1112 w = x)) i), Int32.ofNat i)) n (by unfold w_N; omega) ?_ ?_
  · intro i hi
    grind [l_170_4, u_lt, u_cl, u_ix, u_addL, w_gd, lst, oi]
  · grind [l_170_4, u_lt, u_cl, u_ix, u_addL, w_gd, lst, oi]
theorem u_pred (i : Nat) : Int32.ofNat (i + 1) + (-1) = Int32.ofNat i := by
  have : Int32.ofNat (i + 1) = Int32.ofNat i + 1 := (u_addL i 1).symm
  rw [this]; grind
theorem s_127 {h : Hp} {x : Int32} : p_127 h x = some (oi (lst (bt x) 20)) := by
  unfold p_127
  have key : ∀ n N, n ≤ 20 → n < N → w_lp (fun s => l_127_2 h x s) N (Int32.ofNat n + (-1)) = some (oi (lst (bt x) n)) := by
    intro n
    induction n with
    | zero => intro N _ hN; obtain ⟨N, rfl⟩ : ∃ m, N = m + 1 := ⟨N - 1, by omega⟩; rfl
    | succ n ih =>
      intro N hn hN
      obtain ⟨N, rfl⟩ : ∃ m, N = m + 1 := ⟨N - 1, by omega⟩
      rw [u_pred]
      have := ih N (by omega) (by omega)
      simp only [w_lp, l_127_2, u_lt0 (show n < 2147483648 by omega), if_false, u_has (show n < 32 by omega), lst]
      cases bt x n with
      | true => rfl
      | false => simp only [Bool.false_eq_true, if_false, if_true]; exact this
  exact key 20 w_N (by omega) (by decide)
theorem s_180 {h : Hp} {n : Nat} {x : Int32} (hn : n ≤ 16) : p_180 h x (Int32.ofNat n) = some (oi (lst (fun k => decide (¬ (h 1084 k &&& v_162 x) = 0)) n)) := by
  unfold p_180
  refine u_for (fun i => (oi (lst (fun k => decide (¬ (h 1084 k &&& v_162 x) = 0)) i), Int32.ofNat i)) n (by unfold w_N; omega) ?_ ?_
  · intro i hi
    grind [l_180_4, u_lt, u_cl, u_ix, u_addL, w_gd, lst, oi]
  · grind [l_180_4, u_lt, u_cl, u_ix, u_addL, w_gd, lst, oi]
def ofB (b : Bool) : Int32 := if b then 1 else 0
theorem s_179 {h : Hp} {n nw : Nat} {x : Int32} (hn : h 1076 2 = Int32.ofNat n) (h16 : n ≤ 16) (hw : h 1076 48 = Int32.ofNat nw) (h4 : nw ≤ 4) : p_179 h x = some (Int32.ofNat ((if lst (fun w => decide (h 1112 w = x)) nw = none then 0 else 1) + cnt (fun k => decide (¬ (h 1083 k &&& v_162 x) = 0)) n)) := by
  unfold p_179
  rw [s_170 hw h4]
  simp only [Option.bind_some, q_179_8]
  have e0 : (if oi (lst (fun w => decide (h 1112 w = x)) nw) = (-1) then (0 : Int32) else 1) = Int32.ofNat (if lst (fun w => decide (h 1112 w = x)) nw = none then 0 else 1) := by
    cases hl : lst (fun w => decide (h 1112 w = x)) nw with
    | none => rfl
    | some k =>
      have := (lst_lt _ hl).1
      have : ¬ Int32.ofNat k = -1 := by
        intro e
        have e2 := u_lt0 (a := k) (by omega)
        rw [e] at e2; exact e2 (by decide)
      simp only [oi, this, if_false]; rfl
  rw [e0]
  generalize (if lst (fun w => decide (h 1112 w = x)) nw = none then 0 else 1) = z
  refine u_for (fun i => (Int32.ofNat (z + cnt (fun k => decide (¬ (h 1083 k &&& v_162 x) = 0)) i), Int32.ofNat i)) n (by unfold w_N; omega) ?_ ?_
  · intro i hi
    grind [l_179_11, u_lt, u_cl, u_ix, u_addL, w_gd, cnt]
  · grind [l_179_11, u_lt, u_cl, u_ix, u_addL, w_gd, cnt]
