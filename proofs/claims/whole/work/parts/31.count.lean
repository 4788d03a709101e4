/-! ===== Integer.bitCount counts ===== -/
def pn (x : Int32) : Nat := x.toUInt32.toNat
theorem pn_lt (x : Int32) : pn x < 4294967296 := UInt32.toNat_lt _
theorem pn_and (a b : Int32) : pn (a &&& b) = pn a &&& pn b := by simp [pn]
theorem pn_add (a b : Int32) : pn (a + b) = (pn a + pn b) % 4294967296 := by simp [pn]
theorem pn_sub {a b : Int32} (h : pn b ≤ pn a) : pn (a - b) = pn a - pn b := by
  unfold pn at *
  rw [Int32.toUInt32_sub]
  exact UInt32.toNat_sub_of_le _ _ (UInt32.le_iff_toNat_le.mpr h)
theorem pn_sh1 (a : Int32) : pn ((a.toUInt32 >>> (Int32.toUInt32 1 &&& Int32.toUInt32 31)).toInt32) = pn a / 2 := by
  simp only [pn, UInt32.toUInt32_toInt32, UInt32.toNat_shiftRight]
  rw [show (Int32.toUInt32 1 &&& Int32.toUInt32 31).toNat % 32 = 1 by decide, Nat.shiftRight_eq_div_pow]
theorem pn_sh2 (a : Int32) : pn ((a.toUInt32 >>> (Int32.toUInt32 2 &&& Int32.toUInt32 31)).toInt32) = pn a / 4 := by
  simp only [pn, UInt32.toUInt32_toInt32, UInt32.toNat_shiftRight]
  rw [show (Int32.toUInt32 2 &&& Int32.toUInt32 31).toNat % 32 = 2 by decide, Nat.shiftRight_eq_div_pow]
theorem pn_sh4 (a : Int32) : pn ((a.toUInt32 >>> (Int32.toUInt32 4 &&& Int32.toUInt32 31)).toInt32) = pn a / 16 := by
  simp only [pn, UInt32.toUInt32_toInt32, UInt32.toNat_shiftRight]
  rw [show (Int32.toUInt32 4 &&& Int32.toUInt32 31).toNat % 32 = 4 by decide, Nat.shiftRight_eq_div_pow]
theorem pn_sh8 (a : Int32) : pn ((a.toUInt32 >>> (Int32.toUInt32 8 &&& Int32.toUInt32 31)).toInt32) = pn a / 256 := by
  simp only [pn, UInt32.toUInt32_toInt32, UInt32.toNat_shiftRight]
  rw [show (Int32.toUInt32 8 &&& Int32.toUInt32 31).toNat % 32 = 8 by decide, Nat.shiftRight_eq_div_pow]
theorem pn_sh16 (a : Int32) : pn ((a.toUInt32 >>> (Int32.toUInt32 16 &&& Int32.toUInt32 31)).toInt32) = pn a / 65536 := by
  simp only [pn, UInt32.toUInt32_toInt32, UInt32.toNat_shiftRight]
  rw [show (Int32.toUInt32 16 &&& Int32.toUInt32 31).toNat % 32 = 16 by decide, Nat.shiftRight_eq_div_pow]
theorem pn_inj {a b : Int32} (h : pn a = pn b) : a = b := by
  have : a.toUInt32 = b.toUInt32 := UInt32.toNat_inj.mp h
  have h2 := congrArg UInt32.toInt32 this
  simpa using h2
theorem and_256 (m c d : Nat) (hc : c < 256) : m &&& (c + 256 * d) = (m % 256 &&& c) + 256 * (m / 256 &&& d) := by
  have h1 := Nat.and_mod_two_pow (a := m) (b := c + 256 * d) (n := 8)
  have h2 := Nat.and_div_two_pow (a := m) (b := c + 256 * d) (n := 8)
  have e1 : (c + 256 * d) % 2 ^ 8 = c := by omega
  have e2 : (c + 256 * d) / 2 ^ 8 = d := by omega
  rw [e1] at h1; rw [e2] at h2
  have h3 := Nat.div_add_mod (m &&& (c + 256 * d)) 256
  rw [show (256 : Nat) = 2 ^ 8 by decide] at h3 ⊢
  rw [h1, h2] at h3
  omega
theorem pc_1 {p q d : Nat} (hp : p < 256) : ((p + 256 * q) / 2) &&& (85 + 256 * d) = ((p / 2) &&& 85) + 256 * ((q / 2) &&& d) := by
  rw [and_256 _ _ _ (by omega)]
  have e1 : (p + 256 * q) / 2 % 256 = p / 2 + 128 * (q % 2) := by omega
  have e2 : (p + 256 * q) / 2 / 256 = q / 2 := by omega
  have e3 : ∀ p, p < 256 → ∀ r, r < 2 → (p / 2 + 128 * r) &&& 85 = (p / 2) &&& 85 := by decide +kernel
  rw [e1, e2, e3 p hp _ (by omega)]
theorem pc_2 {p q d : Nat} (hp : p < 256) : ((p + 256 * q) / 4) &&& (51 + 256 * d) = ((p / 4) &&& 51) + 256 * ((q / 4) &&& d) := by
  rw [and_256 _ _ _ (by omega)]
  have e1 : (p + 256 * q) / 4 % 256 = p / 4 + 64 * (q % 4) := by omega
  have e2 : (p + 256 * q) / 4 / 256 = q / 4 := by omega
  have e3 : ∀ p, p < 256 → ∀ r, r < 4 → (p / 4 + 64 * r) &&& 51 = (p / 4) &&& 51 := by decide +kernel
  rw [e1, e2, e3 p hp _ (by omega)]
theorem pc_2b {p q d : Nat} (hp : p < 256) : (p + 256 * q) &&& (51 + 256 * d) = (p &&& 51) + 256 * (q &&& d) := by
  rw [and_256 _ _ _ (by omega)]
  rw [show (p + 256 * q) % 256 = p by omega, show (p + 256 * q) / 256 = q by omega]
theorem pc_3 {p q d : Nat} (hp : p < 256) : (p + 256 * q) &&& (15 + 256 * d) = (p &&& 15) + 256 * (q &&& d) := by
  rw [and_256 _ _ _ (by omega)]
  rw [show (p + 256 * q) % 256 = p by omega, show (p + 256 * q) / 256 = q by omega]
def pc_a (p : Nat) : Nat := p - ((p / 2) &&& 85)
def pc_b (p : Nat) : Nat := (p &&& 51) + ((p / 4) &&& 51)
theorem pc_all : ∀ p, p < 256 → (p / 2) &&& 85 ≤ p ∧ pc_a p < 256 ∧ pc_b (pc_a p) < 256 ∧ pc_b (pc_a p) % 16 ≤ 4 ∧ pc_b (pc_a p) / 16 ≤ 4 ∧ pc_b (pc_a p) % 16 + pc_b (pc_a p) / 16 = cnt (fun i => p.testBit i) 8 := by decide +kernel
theorem pc_m {r t : Nat} (hr : r % 16 ≤ 4) (hr2 : r / 16 ≤ 4) (ht : t ≤ 4) : (r + r / 16 + 16 * t) < 256 ∧ (r + r / 16 + 16 * t) &&& 15 = r % 16 + r / 16 := by
  refine ⟨by omega, ?_⟩
  have := Nat.and_two_pow_sub_one_eq_mod (r + r / 16 + 16 * t) 4
  rw [show (2 : Nat) ^ 4 - 1 = 15 by decide] at this
  rw [this]; omega
theorem pc_lt {v0 v1 v2 v3 : Nat} (h0 : v0 < 256) (h1 : v1 < 256) (h2 : v2 < 256) (h3 : v3 < 256) : v0 + 256 * (v1 + 256 * (v2 + 256 * v3)) < 4294967296 := by omega
theorem pc_s (r Q : Nat) : (r + 256 * Q) + (r + 256 * Q) / 16 = (r + r / 16 + 16 * (Q % 16)) + 256 * (Q + Q / 16) := by omega
theorem pc_t (r Q : Nat) : (r + 256 * Q) % 16 = r % 16 := by omega
theorem cnt_split (f : Nat → Bool) (a : Nat) : ∀ b, cnt f (a + b) = cnt f a + cnt (fun i => f (a + i)) b := by
  intro b
  induction b with
  | zero => rfl
  | succ b ih => rw [← Nat.add_assoc]; simp only [cnt, ih]; omega
theorem pc_f {w0 w1 w2 w3 : Nat} (q0 : w0 ≤ 8) (q1 : w1 ≤ 8) (q2 : w2 ≤ 8) (q3 : w3 ≤ 8) : ((w0 + 256 * (w1 + 256 * (w2 + 256 * w3)) + (w0 + 256 * (w1 + 256 * (w2 + 256 * w3))) / 256) % 4294967296 + (w0 + 256 * (w1 + 256 * (w2 + 256 * w3)) + (w0 + 256 * (w1 + 256 * (w2 + 256 * w3))) / 256) % 4294967296 / 65536) % 4294967296 % 2 ^ 6 = w0 + w1 + w2 + w3 := by
  have a1 : (w0 + 256 * (w1 + 256 * (w2 + 256 * w3))) / 256 = w1 + 256 * (w2 + 256 * w3) := by
    rw [Nat.add_mul_div_left _ _ (by decide), Nat.div_eq_of_lt (by omega), Nat.zero_add]
  rw [a1]
  have a2 : (w0 + 256 * (w1 + 256 * (w2 + 256 * w3)) + (w1 + 256 * (w2 + 256 * w3))) % 4294967296 = (w0 + w1 + 256 * (w1 + w2)) + 65536 * (w2 + w3 + 256 * w3) := by
    rw [Nat.mod_eq_of_lt (by omega)]; omega
  rw [a2]
  have a3 : ((w0 + w1 + 256 * (w1 + w2)) + 65536 * (w2 + w3 + 256 * w3)) / 65536 = w2 + w3 + 256 * w3 := by
    rw [Nat.add_mul_div_left _ _ (by decide), Nat.div_eq_of_lt (by omega), Nat.zero_add]
  rw [a3, Nat.mod_eq_of_lt (b := 4294967296) (by omega)]
  have a4 : w0 + w1 + 256 * (w1 + w2) + 65536 * (w2 + w3 + 256 * w3) + (w2 + w3 + 256 * w3) = (w0 + w1 + w2 + w3) + 2 ^ 6 * (4 * (w1 + w2) + 1024 * (w2 + w3 + 256 * w3) + 4 * w3) := by omega
  rw [a4, Nat.add_mul_mod_self_left, Nat.mod_eq_of_lt (by omega)]
theorem bt_pn (x : Int32) (i : Nat) : bt x i = (pn x).testBit i := rfl
theorem s_267 {h : Hp} {x : Int32} : p_267 h x = some (Int32.ofNat (cnt (bt x) 32)) := by
  unfold p_267
  refine congrArg some ?_
  have hN := pn_lt x
  obtain ⟨x0, x1, x2, x3, h0, h1, h2, h3, hx⟩ : ∃ x0 x1 x2 x3, x0 < 256 ∧ x1 < 256 ∧ x2 < 256 ∧ x3 < 256 ∧ pn x = x0 + 256 * (x1 + 256 * (x2 + 256 * x3)) :=
    ⟨pn x % 256, pn x / 256 % 256, pn x / 65536 % 256, pn x / 16777216, by omega, by omega, by omega, by omega, by omega⟩
  obtain ⟨a0, b0, c0, d0, e0, f0⟩ := pc_all x0 h0
  obtain ⟨a1, b1, c1, d1, e1, f1⟩ := pc_all x1 h1
  obtain ⟨a2, b2, c2, d2, e2, f2⟩ := pc_all x2 h2
  obtain ⟨a3, b3, c3, d3, e3, f3⟩ := pc_all x3 h3
  have hc : cnt (bt x) 32 = cnt (fun i => x0.testBit i) 8 + cnt (fun i => x1.testBit i) 8 + cnt (fun i => x2.testBit i) 8 + cnt (fun i => x3.testBit i) 8 := by
    have t : ∀ (p q i : Nat), p < 256 → i < 8 → (p + 256 * q).testBit i = p.testBit i := by
      intro p q i hp hi
      have := Nat.testBit_mod_two_pow (p + 256 * q) 8 i
      rw [show (p + 256 * q) % 2 ^ 8 = p by omega] at this
      rw [this]; simp [hi]
    have t2 : ∀ (p q i : Nat), p < 256 → (p + 256 * q).testBit (8 + i) = q.testBit i := by
      intro p q i hp
      have := Nat.testBit_div_two_pow (n := 8) (p + 256 * q) i
      rw [show (p + 256 * q) / 2 ^ 8 = q by omega] at this
      rw [Nat.add_comm 8 i]; exact this.symm
    rw [show (32 : Nat) = 8 + (8 + (8 + 8)) by decide, cnt_split, cnt_split, cnt_split]
    rw [cnt_congr (g := fun i => x0.testBit i) 8 (fun i hi => by rw [bt_pn, hx, t _ _ _ h0 hi])]
    rw [cnt_congr (f := fun i => bt x (8 + i)) (g := fun i => x1.testBit i) 8 (fun i hi => by rw [bt_pn, hx, t2 _ _ _ h0, t _ _ _ h1 hi])]
    rw [cnt_congr (f := fun i => bt x (8 + (8 + i))) (g := fun i => x2.testBit i) 8 (fun i hi => by rw [bt_pn, hx, t2 _ _ _ h0, t2 _ _ _ h1, t _ _ _ h2 hi])]
    rw [cnt_congr (f := fun i => bt x (8 + (8 + (8 + i)))) (g := fun i => x3.testBit i) 8 (fun i hi => by rw [bt_pn, hx, t2 _ _ _ h0, t2 _ _ _ h1, t2 _ _ _ h2])]
    omega
  have m1 : pn 1431655765 = 85 + 256 * (85 + 256 * (85 + 256 * 85)) := by decide
  have m2 : pn 858993459 = 51 + 256 * (51 + 256 * (51 + 256 * 51)) := by decide
  have m3 : pn 252645135 = 15 + 256 * (15 + 256 * (15 + 256 * 15)) := by decide
  -- the first stage
  generalize hy1 : (x.toUInt32 >>> (Int32.toUInt32 1 &&& Int32.toUInt32 31)).toInt32 &&& 1431655765 = y1
  have n1 : pn y1 = ((x0 / 2) &&& 85) + 256 * (((x1 / 2) &&& 85) + 256 * (((x2 / 2) &&& 85) + 256 * ((x3 / 2) &&& 85))) := by
    rw [← hy1, pn_and, pn_sh1, hx, m1, pc_1 h0, pc_1 h1, pc_1 h2]
  generalize hz1 : x - y1 = z1
  have n2 : pn z1 = pc_a x0 + 256 * (pc_a x1 + 256 * (pc_a x2 + 256 * pc_a x3)) := by
    rw [← hz1, pn_sub (by rw [n1, hx]; omega), n1, hx]
    unfold pc_a; omega
  generalize hz2 : (z1 &&& 858993459) + ((z1.toUInt32 >>> (Int32.toUInt32 2 &&& Int32.toUInt32 31)).toInt32 &&& 858993459) = z2
  have n3 : pn z2 = pc_b (pc_a x0) + 256 * (pc_b (pc_a x1) + 256 * (pc_b (pc_a x2) + 256 * pc_b (pc_a x3))) := by
    rw [← hz2, pn_add, pn_and, pn_and, pn_sh2, n2, m2, pc_2 b0, pc_2 b1, pc_2 b2, pc_2b b0, pc_2b b1, pc_2b b2]
    unfold pc_b at c0 c1 c2 c3 ⊢; omega
  generalize hz3 : (z2 + (z2.toUInt32 >>> (Int32.toUInt32 4 &&& Int32.toUInt32 31)).toInt32) &&& 252645135 = z3
  generalize pc_b (pc_a x0) = r0 at *
  generalize pc_b (pc_a x1) = r1 at *
  generalize pc_b (pc_a x2) = r2 at *
  generalize pc_b (pc_a x3) = r3 at *
  have g0 := pc_m d0 e0 (t := r1 % 16) d1
  have g1 := pc_m d1 e1 (t := r2 % 16) d2
  have g2 := pc_m d2 e2 (t := r3 % 16) d3
  have g3 := pc_m d3 e3 (t := 0) (by omega)
  have n4 : pn z3 = (r0 % 16 + r0 / 16) + 256 * ((r1 % 16 + r1 / 16) + 256 * ((r2 % 16 + r2 / 16) + 256 * (r3 % 16 + r3 / 16))) := by
    rw [← hz3, pn_and, pn_add, pn_sh4, n3, m3]
    rw [pc_s, pc_t, pc_s, pc_t, pc_s]
    rw [Nat.mod_eq_of_lt (pc_lt g0.1 g1.1 g2.1 (by have := g3.1; rwa [Nat.mul_zero, Nat.add_zero] at this)), show r3 + r3 / 16 = r3 + r3 / 16 + 16 * 0 by rw [Nat.mul_zero, Nat.add_zero]]
    rw [pc_3 g0.1, pc_3 g1.1, pc_3 g2.1, g0.2, g1.2, g2.2, g3.2]
  apply pn_inj
  rw [hc, pn_and, pn_add, pn_add, pn_sh16, pn_add, pn_sh8, n4]
  have m4 : pn 63 = 2 ^ 6 - 1 := by decide
  rw [m4, Nat.and_two_pow_sub_one_eq_mod]
  have m5 : ∀ k, k < 4294967296 → pn (Int32.ofNat k) = k := by
    intro k hk
    simp [pn]; omega
  rw [m5 _ (by omega)]
  rw [← f0, ← f1, ← f2, ← f3]
  have q0 : r0 % 16 + r0 / 16 ≤ 8 := by omega
  have q1 : r1 % 16 + r1 / 16 ≤ 8 := by omega
  have q2 : r2 % 16 + r2 / 16 ≤ 8 := by omega
  have q3 : r3 % 16 + r3 / 16 ≤ 8 := by omega
  exact pc_f q0 q1 q2 q3
