/-! ===== the store's small answers, by K and V ===== -/
theorem n_of {x : Int32} (h : ¬ x < 0) : x = Int32.ofNat x.toNatClampNeg := by
  have h0 : ¬ x.toInt < 0 := by
    intro hn
    exact h (Int32.lt_iff_toInt_lt.mpr (by simpa using hn))
  have h1 : x.toNatClampNeg < 2147483648 := by
    show x.toInt.toNat < 2147483648
    have := Int32.toInt_lt x
    omega
  apply Int32.toInt_inj.mp
  rw [n_toInt h1]
  show x.toInt = (x.toInt.toNat : Int)
  omega
theorem n_bd {x : Int32} {n : Nat} (hn : n < 2147483648) (h1 : ¬ (j_cond 2 x 0 = true)) (h2 : ¬ (j_cond 3 x (Int32.ofNat n) = true)) : ¬ (x < 0 ∨ n ≤ x.toNatClampNeg) := by
  have a1 : ¬ x < 0 := fun h => h1 (decide_eq_true h)
  have hx := n_of a1
  have hb : x.toNatClampNeg < 2147483648 := by
    show x.toInt.toNat < 2147483648
    have := Int32.toInt_lt x
    omega
  rintro (h | h)
  · exact a1 h
  · apply h2
    rw [hx]
    exact n_c3T hb hn h
def s_k (K : Nat → Int32) (x : Int32) : Int32 := if j_cond 2 x 0 = true then 0 else if j_cond 3 x 27 = true then 0 else K x.toNatClampNeg
def s_v (V : Nat → Int32) (x y : Int32) : Int32 := if j_cond 2 x 0 = true then 0 else if j_cond 3 x 27 = true then 0 else if j_cond 2 y 0 = true then 0 else if j_cond 3 y 8 = true then 0 else V (x.toNatClampNeg * 8 + y.toNatClampNeg)
theorem n_ltn {x : Int32} {n : Nat} (h : ¬ (x < 0 ∨ n ≤ x.toNatClampNeg)) : x.toNatClampNeg < n := by
  have := not_or.mp h; omega
theorem n_ix2 {x y : Int32} (hx : ¬ (x < 0 ∨ 27 ≤ x.toNatClampNeg)) (hy : ¬ (y < 0 ∨ 8 ≤ y.toNatClampNeg)) : x * 8 + y = Int32.ofNat (x.toNatClampNeg * 8 + y.toNatClampNeg) := by
  have e1 := n_of (not_or.mp hx).1
  have e2 := n_of (not_or.mp hy).1
  rw [Int32.ofNat_add, Int32.ofNat_mul, ← e1, ← e2]; rfl
theorem t_shapeOf_63 {X : List Int32} {d : Nat} {m : jM} {r q p : Nat} {K V : Nat → Int32} {x : Int32} (h : s_st m r q p K V) : j_Ev X d 63 [.ref (r + 1), .int x] m (.inl (some (.int (s_k K x))), m) := by
  obtain ⟨ks, vs, h0, h1, h2, h3, h4, h5, h6, h7, h8⟩ := h
  refine j_evw (s_X8_shapeOf_63 h0 h2 (fun a b => by rw [h4]; exact n_bd (n := 27) (by decide) a b)) ?_
  unfold s_k
  split
  · rfl
  · rename_i c1
    split
    · rfl
    · rename_i c2
      rw [h6 _ (n_ltn (n_bd (n := 27) (by decide) c1 c2))]
theorem t_isNumber_64 {X : List Int32} {d : Nat} {m : jM} {r q p : Nat} {K V : Nat → Int32} {x : Int32} (h : s_st m r q p K V) : j_Ev X d 64 [.ref (r + 1), .int x] m (.inl (some (.int (if s_k K x = 1 then 1 else 0))), m) := by
  obtain ⟨ks, vs, h0, h1, h2, h3, h4, h5, h6, h7, h8⟩ := h
  refine j_evw (s_X8_isNumber_64 h0 h2 (fun a b => by rw [h4]; exact n_bd (n := 27) (by decide) a b)) ?_
  unfold s_k
  split
  · rw [if_neg (by decide)]
  · rename_i c1
    split
    · rw [if_neg (by decide)]
    · rename_i c2
      rw [h6 _ (n_ltn (n_bd (n := 27) (by decide) c1 c2))]
      by_cases hk : K x.toNatClampNeg = 1
      · rw [if_neg (by simp [j_cond, hk]), if_pos hk]
      · rw [if_pos (by simp [j_cond, hk]), if_neg hk]
theorem t_itemCount_65 {X : List Int32} {d : Nat} {m : jM} {r q p : Nat} {K V : Nat → Int32} {x : Int32} (h : s_st m r q p K V) : j_Ev X d 65 [.ref (r + 1), .int x] m (.inl (some (.int (if s_k K x ≤ 2 then 0 else s_k K x - 2))), m) := by
  obtain ⟨ks, vs, h0, h1, h2, h3, h4, h5, h6, h7, h8⟩ := h
  refine j_evw (s_X8_itemCount_65 h0 h2 (fun a b => by rw [h4]; exact n_bd (n := 27) (by decide) a b) (fun a b _ => by rw [h4]; exact n_bd (n := 27) (by decide) a b)) ?_
  unfold s_k
  split
  · rw [if_pos (by decide)]
  · rename_i c1
    split
    · rw [if_pos (by decide)]
    · rename_i c2
      rw [h6 _ (n_ltn (n_bd (n := 27) (by decide) c1 c2))]
      by_cases hk : K x.toNatClampNeg ≤ 2
      · rw [if_pos (by simp [j_cond, hk]), if_pos hk]
      · rw [if_neg (by simp [j_cond, hk]), if_neg hk]
theorem t_itemOf_66 {X : List Int32} {d : Nat} {m : jM} {r q p : Nat} {K V : Nat → Int32} {x y : Int32} (h : s_st m r q p K V) : j_Ev X d 66 [.ref (r + 1), .int x, .int y] m (.inl (some (.int (s_v V x y))), m) := by
  obtain ⟨ks, vs, h0, h1, h2, h3, h4, h5, h6, h7, h8⟩ := h
  have hz : ¬ ¬ (j_cond 0 0 0 = true) := by decide
  refine j_evw (s_X8_itemOf_66 h1 h3 (fun _ a => absurd a hz) (fun _ _ a => absurd a hz) (fun _ _ _ a => absurd a hz) (fun _ _ _ _ a => absurd a hz) (fun a b c e _ => ?_)) ?_
  · have A := n_bd (n := 27) (by decide) a b
    have B := n_bd (n := 8) (by decide) c e
    have A2 := n_ltn A
    have B2 := n_ltn B
    rw [n_ix2 A B, h5]
    exact n_ix (by omega) (by omega)
  · unfold s_v
    split
    · rw [if_pos (by decide)]
    · rename_i c1
      split
      · rw [if_pos (by decide)]
      · rename_i c2
        split
        · rw [if_pos (by decide)]
        · rename_i c3
          split
          · rw [if_pos (by decide)]
          · rename_i c4
            have A := n_bd (n := 27) (by decide) c1 c2
            have B := n_bd (n := 8) (by decide) c3 c4
            have A2 := n_ltn A
            have B2 := n_ltn B
            rw [if_neg (by decide), n_ix2 A B, n_clamp (by omega), h7 _ (by omega)]
