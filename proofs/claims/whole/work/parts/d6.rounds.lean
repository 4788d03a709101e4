/-! ===== round by round (printed by wip/whole/genloop.py) ===== -/
section SD6
variable {X : List Int32} {n i b : Nat} {h h1 h2 h' m m' g : Hp}
theorem CI_cross (H : CI b h m) (eh : ∀ z, z < 1076 → h' z = h z) (em : ∀ q, 1076 ≤ q → q ≠ 1133 → m' q = m q) : CI b h' m' := by
  obtain ⟨n, nw, k, H⟩ := H
  refine ⟨n, nw, k, CP_fr H ⟨Nat.le_refl _, H.1.2⟩ (fun z hz => eh z hz.1) ⟨by rw [eh 40 (by decide)], by rw [eh 40 (by decide)]⟩ (fun q hq => em q (by unfold mRw at hq; omega) (by unfold mRw at hq; omega)) (fun c _ => by rw [em 1076 (by decide) (by decide)]) ?_⟩
  intro j x hj hx
  obtain ⟨v, hv⟩ := H.2.2.2.2.2.2.2.2.2.2.2.1 j x hj hx
  exact ⟨v, mv_fr hv (fun c _ _ => by rw [em 1123 (by decide) (by decide)])⟩
theorem CI_20 (H : CI b h m) (hb : b + 20 ≤ 1000000) : CI (b + 20) h m := by
  obtain ⟨n, nw, k, -, H⟩ := CI_up H hb
  exact ⟨n, nw, k, H⟩
/-- a round that can throw, on one heap -/
theorem rnd {C : Hp → Option ((Int32 ⊕ Nat) × Hp)} {M : Hp → Option (Int32 × Hp)} {xs : List (Nat × Int32)} (call : ∀ h m, CI b h m → OUT b h m (C h) (M m) xs) (H : CI b h h) : (∃ v h1 h2, C h = some (.inl v, h1) ∧ M (w_up h1 1133 0 v) = some (v, h2) ∧ v_145 h2 = 0 ∧ h2 1133 0 = v ∧ CI (b + 20) h2 h2) ∨ ∃ id e v h1 h2, (id, e) ∈ xs ∧ C h = some (.inr id, h1) ∧ M h1 = some (v, h2) ∧ v_145 h2 = e ∧ CI (b + 20) h2 h2 := by
  obtain ⟨r, h1, v, m1, hC, hM, HC, E, hor⟩ := call h h H
  rcases hor with ⟨rfl, -⟩ | ⟨id, e, hx, rfl, -⟩
  · have H' : CI b h (w_up h1 1133 0 v) := CI_cross H (fun _ _ => rfl) (fun q h1 h2 => by rw [w_up_ne h2]; exact E.1 q h1)
    obtain ⟨r', h1', v', m2, hC', hM', HC', E', hor'⟩ := call h _ H'
    rw [hC] at hC'
    cases hC'
    rcases hor' with ⟨e1, e2⟩ | ⟨id, e, -, e1, -⟩
    · cases e1
      refine Or.inl ⟨v, h1, m2, hC, hM', e2, by rw [E'.2 1133 (Or.inr rfl)]; exact w_up_at, CI_cross HC' (fun z hz => ?_) (fun _ _ _ => rfl)⟩
      rw [E'.2 z (Or.inl hz), w_up_ne (by omega)]
    · cases e1
  · have H' : CI b h h1 := CI_cross H (fun _ _ => rfl) (fun q h1 _ => E.1 q h1)
    obtain ⟨r', h1', v', m2, hC', hM', HC', E', hor'⟩ := call h _ H'
    rw [hC] at hC'
    cases hC'
    rcases hor' with ⟨e1, -⟩ | ⟨id', e', hx', e1, e2⟩
    · cases e1
    · cases e1
      exact Or.inr ⟨id, e', v', h1, m2, hx', hC, hM', e2, CI_cross HC' (fun z hz => E'.2 z (Or.inl hz)) (fun _ _ _ => rfl)⟩
/-- a round that can't -/
theorem rnd2 {C : Hp → Option (Int32 × Hp)} {M : Hp → Option (Int32 × Hp)} (call : ∀ h m, CI b h m → ∃ v h' m', C h = some (v, h') ∧ M m = some (v, m') ∧ CI (b + 20) h' m' ∧ EF h m h' m') (H : CI b h h) : ∃ v h1 h2, C h = some (v, h1) ∧ M h1 = some (v, h2) ∧ CI (b + 20) h2 h2 := by
  obtain ⟨v, h1, m1, hC, hM, HC, E⟩ := call h h H
  have H' : CI b h h1 := CI_cross H (fun _ _ => rfl) (fun q h1 _ => E.1 q h1)
  obtain ⟨v', h1', m2, hC', hM', HC', E'⟩ := call h _ H'
  rw [hC] at hC'
  cases hC'
  exact ⟨v, h1, m2, hC, hM', CI_cross HC' (fun z hz => E'.2 z (Or.inl hz)) (fun _ _ _ => rfl)⟩
theorem map_in {o : Option (Int32 ⊕ Nat)} {r : Int32 ⊕ Nat} (e : (o.map fun r => (r, h)) = some (r, h1)) : o = some r ∧ h1 = h := by
  cases o with
  | none => cases e
  | some r' => cases e; exact ⟨rfl, rfl⟩
theorem i2c_nar {x : Int32} : j_nar 51 (la_i2c x) = la_i2c x := by
  have e : j_nar 51 (la_i2c x) = ((la_i2c x).toUInt32 % 65536).toInt32 := rfl
  have e2 : (la_i2c x).toUInt32 = x.toUInt32 % 65536 := rfl
  rw [e, e2]
  have e3 : x.toUInt32 % 65536 % 65536 = x.toUInt32 % 65536 := by
    apply UInt32.toNat_inj.mp
    rw [UInt32.toNat_mod, UInt32.toNat_mod, Nat.mod_mod]
  rw [e3]; rfl
theorem op_lt (x : Int32) : ∃ r : Nat, r < 32 ∧ x &&& 31 = Int32.ofNat r := by
  refine ⟨(x &&& 31).toBitVec.toNat, ?_, ?_⟩
  · have e : (x &&& 31).toBitVec = x.toBitVec &&& 31#32 := rfl
    rw [e, BitVec.toNat_and]
    exact Nat.lt_of_le_of_lt Nat.and_le_right (by decide)
  · apply Int32.toBitVec_inj.mp
    show (x &&& 31).toBitVec = BitVec.ofNat 32 _
    simp
theorem rd_0 {w a1 a2 a3 : Int32} (hi : i + 4 ≤ X.length) (hl : X.length ≤ 2048) (hop : X.getD i 0 &&& 31 = 0) (ha1 : X.getD (i + 1) 0 = a1) (ha2 : X.getD (i + 2) 0 = a2) (ha3 : X.getD (i + 3) 0 = a3) (H : CI b h h) (hb : b + 20 ≤ 1000000) (IH : ∀ g, CI (b + 20) g g → la_at X n (i + 4) g) : la_at X (n + 1) i h := by
  rcases rnd (C := fun h => p_97 h a1 (la_i2c a2)) (M := fun m => p_159 m a1 (la_i2c a2)) (fun h m H => call_0 H hb i2c_nar) H with ⟨v, h1, h2, e1, e2, e3, e4, e5⟩ | ⟨id, e, v, h1, h2, hx, e1, e2, e3, e4⟩
  · exact la_c0_n hi hl hop ha1 ha2 e1 e2 e3 e4 (IH h2 e5)
  · simp only [List.mem_cons, List.not_mem_nil, or_false, Prod.mk.injEq] at hx
    rcases hx with ⟨rfl, h0⟩ | ⟨rfl, h0⟩
    · exact la_c0_x0 hi hl hop ha1 ha2 e1 e2 (e3.trans h0) (IH h2 e4)
    · exact la_c0_x1 hi hl hop ha1 ha2 e1 e2 (e3.trans h0) (IH h2 e4)
theorem rd_1 {w a1 a2 a3 : Int32} (hi : i + 4 ≤ X.length) (hl : X.length ≤ 2048) (hop : X.getD i 0 &&& 31 = 1) (ha1 : X.getD (i + 1) 0 = a1) (ha2 : X.getD (i + 2) 0 = a2) (ha3 : X.getD (i + 3) 0 = a3) (H : CI b h h) (hb : b + 20 ≤ 1000000) (IH : ∀ g, CI (b + 20) g g → la_at X n (i + 4) g) : la_at X (n + 1) i h := by
  rcases rnd (C := fun h => p_98 h a1 a2) (M := fun m => p_160 m a1 a2) (fun h m H => call_1 H hb) H with ⟨v, h1, h2, e1, e2, e3, e4, e5⟩ | ⟨id, e, v, h1, h2, hx, e1, e2, e3, e4⟩
  · exact la_c1_n hi hl hop ha1 ha2 e1 e2 e3 e4 (IH h2 e5)
  · simp only [List.mem_cons, List.not_mem_nil, or_false, Prod.mk.injEq] at hx
    obtain ⟨rfl, rfl⟩ := hx
    exact la_c1_x0 hi hl hop ha1 ha2 e1 e2 e3 (IH h2 e4)
theorem rd_2 {w a1 a2 a3 : Int32} (hi : i + 4 ≤ X.length) (hl : X.length ≤ 2048) (hop : X.getD i 0 &&& 31 = 2) (ha1 : X.getD (i + 1) 0 = a1) (ha2 : X.getD (i + 2) 0 = a2) (ha3 : X.getD (i + 3) 0 = a3) (H : CI b h h) (hb : b + 20 ≤ 1000000) (IH : ∀ g, CI (b + 20) g g → la_at X n (i + 4) g) : la_at X (n + 1) i h := by
  rcases rnd (C := fun h => p_99 h a1 a2) (M := fun m => p_166 m a1 a2) (fun h m H => call_2 H hb) H with ⟨v, h1, h2, e1, e2, e3, e4, e5⟩ | ⟨id, e, v, h1, h2, hx, e1, e2, e3, e4⟩
  · exact la_c2_n hi hl hop ha1 ha2 e1 e2 e3 e4 (IH h2 e5)
  · simp only [List.mem_cons, List.not_mem_nil, or_false, Prod.mk.injEq] at hx
    rcases hx with ⟨rfl, h0⟩ | ⟨rfl, h0⟩
    · exact la_c2_x0 hi hl hop ha1 ha2 e1 e2 (e3.trans h0) (IH h2 e4)
    · exact la_c2_x1 hi hl hop ha1 ha2 e1 e2 (e3.trans h0) (IH h2 e4)
theorem rd_3 {w a1 a2 a3 : Int32} (hi : i + 4 ≤ X.length) (hl : X.length ≤ 2048) (hop : X.getD i 0 &&& 31 = 3) (ha1 : X.getD (i + 1) 0 = a1) (ha2 : X.getD (i + 2) 0 = a2) (ha3 : X.getD (i + 3) 0 = a3) (H : CI b h h) (hb : b + 20 ≤ 1000000) (IH : ∀ g, CI (b + 20) g g → la_at X n (i + 4) g) : la_at X (n + 1) i h := by
  rcases rnd (C := fun h => p_100 h a1 a2 a3) (M := fun m => p_168 m a1 a2 a3) (fun h m H => call_3 H hb) H with ⟨v, h1, h2, e1, e2, e3, e4, e5⟩ | ⟨id, e, v, h1, h2, hx, e1, e2, e3, e4⟩
  · exact la_c3_n hi hl hop ha1 ha2 ha3 e1 e2 e3 e4 (IH h2 e5)
  · simp only [List.mem_cons, List.not_mem_nil, or_false, Prod.mk.injEq] at hx
    rcases hx with ⟨rfl, h0⟩ | ⟨rfl, h0⟩ | ⟨rfl, h0⟩
    · exact la_c3_x2 hi hl hop ha1 ha2 ha3 e1 e2 (e3.trans h0) (IH h2 e4)
    · exact la_c3_x0 hi hl hop ha1 ha2 ha3 e1 e2 (e3.trans h0) (IH h2 e4)
    · exact la_c3_x1 hi hl hop ha1 ha2 ha3 e1 e2 (e3.trans h0) (IH h2 e4)
theorem rd_4 {w a1 a2 a3 : Int32} (hi : i + 4 ≤ X.length) (hl : X.length ≤ 2048) (hop : X.getD i 0 &&& 31 = 4) (ha1 : X.getD (i + 1) 0 = a1) (ha2 : X.getD (i + 2) 0 = a2) (ha3 : X.getD (i + 3) 0 = a3) (H : CI b h h) (hb : b + 20 ≤ 1000000) (IH : ∀ g, CI (b + 20) g g → la_at X n (i + 4) g) : la_at X (n + 1) i h := by
  rcases rnd (C := fun h => p_101 h a1) (M := fun m => p_169 m a1) (fun h m H => call_4 H hb) H with ⟨v, h1, h2, e1, e2, e3, e4, e5⟩ | ⟨id, e, v, h1, h2, hx, e1, e2, e3, e4⟩
  · exact la_c4_n hi hl hop ha1 e1 e2 e3 e4 (IH h2 e5)
  · simp only [List.mem_cons, List.not_mem_nil, or_false, Prod.mk.injEq] at hx
    obtain ⟨rfl, rfl⟩ := hx
    exact la_c4_x0 hi hl hop ha1 e1 e2 e3 (IH h2 e4)
theorem rd_5 {w a1 a2 a3 : Int32} (hi : i + 4 ≤ X.length) (hl : X.length ≤ 2048) (hop : X.getD i 0 &&& 31 = 5) (ha1 : X.getD (i + 1) 0 = a1) (ha2 : X.getD (i + 2) 0 = a2) (ha3 : X.getD (i + 3) 0 = a3) (H : CI b h h) (hb : b + 20 ≤ 1000000) (IH : ∀ g, CI (b + 20) g g → la_at X n (i + 4) g) : la_at X (n + 1) i h := by
  rcases rnd (C := fun h => p_102 h (la_i2c a1) a2 a3) (M := fun m => p_171 m (la_i2c a1) a2 a3) (fun h m H => call_5 H hb) H with ⟨v, h1, h2, e1, e2, e3, e4, e5⟩ | ⟨id, e, v, h1, h2, hx, e1, e2, e3, e4⟩
  · exact la_c5_n hi hl hop ha1 ha2 ha3 e1 e2 e3 e4 (IH h2 e5)
  · simp only [List.mem_cons, List.not_mem_nil, or_false, Prod.mk.injEq] at hx
    rcases hx with ⟨rfl, h0⟩ | ⟨rfl, h0⟩
    · exact la_c5_x0 hi hl hop ha1 ha2 ha3 e1 e2 (e3.trans h0) (IH h2 e4)
    · exact la_c5_x1 hi hl hop ha1 ha2 ha3 e1 e2 (e3.trans h0) (IH h2 e4)
theorem rd_6 {w a1 a2 a3 : Int32} (hi : i + 4 ≤ X.length) (hl : X.length ≤ 2048) (hop : X.getD i 0 &&& 31 = 6) (ha1 : X.getD (i + 1) 0 = a1) (ha2 : X.getD (i + 2) 0 = a2) (ha3 : X.getD (i + 3) 0 = a3) (H : CI b h h) (hb : b + 20 ≤ 1000000) (IH : ∀ g, CI (b + 20) g g → la_at X n (i + 4) g) : la_at X (n + 1) i h := by
  rcases rnd (C := fun h => p_103 h a1 a2) (M := fun m => p_173 m a1 a2) (fun h m H => (call_6 H hb).1) H with ⟨v, h1, h2, e1, e2, e3, e4, e5⟩ | ⟨id, e, v, h1, h2, hx, e1, e2, e3, e4⟩
  · rcases (call_6 H hb).2 v h1 e1 with rfl | rfl
    · exact la_c6_n0 hi hl hop ha1 ha2 e1 e2 e3 e4 (IH h2 e5)
    · exact la_c6_n1 hi hl hop ha1 ha2 e1 e2 e3 e4 (IH h2 e5)
  · simp only [List.mem_cons, List.not_mem_nil, or_false, Prod.mk.injEq] at hx
    rcases hx with ⟨rfl, h0⟩ | ⟨rfl, h0⟩
    · exact la_c6_x2 hi hl hop ha1 ha2 e1 e2 (e3.trans h0) (IH h2 e4)
    · exact la_c6_x0 hi hl hop ha1 ha2 e1 e2 (e3.trans h0) (IH h2 e4)
theorem rd_7 {w a1 a2 a3 : Int32} (hi : i + 4 ≤ X.length) (hl : X.length ≤ 2048) (hop : X.getD i 0 &&& 31 = 7) (ha1 : X.getD (i + 1) 0 = a1) (ha2 : X.getD (i + 2) 0 = a2) (ha3 : X.getD (i + 3) 0 = a3) (H : CI b h h) (hb : b + 20 ≤ 1000000) (IH : ∀ g, CI (b + 20) g g → la_at X n (i + 4) g) : la_at X (n + 1) i h := by
  rcases rnd (C := fun h => p_104 h a1 a2) (M := fun m => p_174 m a1 a2) (fun h m H => call_7 H hb) H with ⟨v, h1, h2, e1, e2, e3, e4, e5⟩ | ⟨id, e, v, h1, h2, hx, e1, e2, e3, e4⟩
  · exact la_c7_n hi hl hop ha1 ha2 e1 e2 e3 e4 (IH h2 e5)
  · simp only [List.mem_cons, List.not_mem_nil, or_false, Prod.mk.injEq] at hx
    rcases hx with ⟨rfl, h0⟩ | ⟨rfl, h0⟩
    · exact la_c7_x2 hi hl hop ha1 ha2 e1 e2 (e3.trans h0) (IH h2 e4)
    · exact la_c7_x0 hi hl hop ha1 ha2 e1 e2 (e3.trans h0) (IH h2 e4)
theorem rd_8 {w a1 a2 a3 : Int32} (hi : i + 4 ≤ X.length) (hl : X.length ≤ 2048) (hop : X.getD i 0 &&& 31 = 8) (ha1 : X.getD (i + 1) 0 = a1) (ha2 : X.getD (i + 2) 0 = a2) (ha3 : X.getD (i + 3) 0 = a3) (H : CI b h h) (hb : b + 20 ≤ 1000000) (IH : ∀ g, CI (b + 20) g g → la_at X n (i + 4) g) : la_at X (n + 1) i h := by
  obtain ⟨v, h1, h2, e1, e2, e3⟩ := rnd2 (C := fun h => p_105 h) (M := fun m => p_177 m) (fun h m H => call_8 H hb) H
  exact la_c8_n hi hl hop e1 e2 (IH h2 e3)
theorem rd_9 {w a1 a2 a3 : Int32} (hi : i + 4 ≤ X.length) (hl : X.length ≤ 2048) (hop : X.getD i 0 &&& 31 = 9) (ha1 : X.getD (i + 1) 0 = a1) (ha2 : X.getD (i + 2) 0 = a2) (ha3 : X.getD (i + 3) 0 = a3) (H : CI b h h) (hb : b + 20 ≤ 1000000) (IH : ∀ g, CI (b + 20) g g → la_at X n (i + 4) g) : la_at X (n + 1) i h := by
  rcases rnd (C := fun h => (p_106 h a1).map fun r => (r, h)) (M := fun m => p_178 m a1) (fun h m H => call_9 H hb) H with ⟨v, h1, h2, e1, e2, e3, e4, e5⟩ | ⟨id, e, v, h1, h2, hx, e1, e2, e3, e4⟩
  · obtain ⟨f1, rfl⟩ := map_in e1
    exact la_c9_n hi hl hop ha1 f1 e2 e3 e4 (IH h2 e5)
  · simp only [List.mem_cons, List.not_mem_nil, or_false, Prod.mk.injEq] at hx
    obtain ⟨rfl, rfl⟩ := hx
    obtain ⟨f1, rfl⟩ := map_in e1
    exact la_c9_x2 hi hl hop ha1 f1 e2 e3 (IH h2 e4)
theorem rd_10 {w a1 a2 a3 : Int32} (hi : i + 4 ≤ X.length) (hl : X.length ≤ 2048) (hop : X.getD i 0 &&& 31 = 10) (ha1 : X.getD (i + 1) 0 = a1) (ha2 : X.getD (i + 2) 0 = a2) (ha3 : X.getD (i + 3) 0 = a3) (H : CI b h h) (hb : b + 20 ≤ 1000000) (IH : ∀ g, CI (b + 20) g g → la_at X n (i + 4) g) : la_at X (n + 1) i h := by
  rcases rnd (C := fun h => p_107 h a1) (M := fun m => p_226 m a1) (fun h m H => call_10 H hb) H with ⟨v, h1, h2, e1, e2, e3, e4, e5⟩ | ⟨id, e, v, h1, h2, hx, e1, e2, e3, e4⟩
  · exact la_c10_n hi hl hop ha1 e1 e2 e3 e4 (IH h2 e5)
  · simp only [List.mem_cons, List.not_mem_nil, or_false, Prod.mk.injEq] at hx
    rcases hx with ⟨rfl, h0⟩ | ⟨rfl, h0⟩
    · exact la_c10_x2 hi hl hop ha1 e1 e2 (e3.trans h0) (IH h2 e4)
    · exact la_c10_x1 hi hl hop ha1 e1 e2 (e3.trans h0) (IH h2 e4)
theorem rd_11 {w a1 a2 a3 : Int32} (hi : i + 4 ≤ X.length) (hl : X.length ≤ 2048) (hop : X.getD i 0 &&& 31 = 11) (ha1 : X.getD (i + 1) 0 = a1) (ha2 : X.getD (i + 2) 0 = a2) (ha3 : X.getD (i + 3) 0 = a3) (H : CI b h h) (hb : b + 20 ≤ 1000000) (IH : ∀ g, CI (b + 20) g g → la_at X n (i + 4) g) : la_at X (n + 1) i h := by
  obtain ⟨v, h1, h2, e1, e2, e3⟩ := rnd2 (C := fun h => p_108 h) (M := fun m => p_227 m) (fun h m H => call_11 H hb) H
  exact la_c11_n hi hl hop e1 e2 (IH h2 e3)
theorem rd_12 {w a1 a2 a3 : Int32} (hi : i + 4 ≤ X.length) (hl : X.length ≤ 2048) (hop : X.getD i 0 &&& 31 = 12) (ha1 : X.getD (i + 1) 0 = a1) (ha2 : X.getD (i + 2) 0 = a2) (ha3 : X.getD (i + 3) 0 = a3) (H : CI b h h) (hb : b + 20 ≤ 1000000) (IH : ∀ g, CI (b + 20) g g → la_at X n (i + 4) g) : la_at X (n + 1) i h := by
  obtain ⟨v, h1, h2, e1, e2, e3⟩ := rnd2 (C := fun h => p_109 h) (M := fun m => p_228 m) (fun h m H => call_12 H hb) H
  exact la_c12_n hi hl hop e1 e2 (IH h2 e3)
theorem rd_13 {w a1 a2 a3 : Int32} (hi : i + 4 ≤ X.length) (hl : X.length ≤ 2048) (hop : X.getD i 0 &&& 31 = 13) (ha1 : X.getD (i + 1) 0 = a1) (ha2 : X.getD (i + 2) 0 = a2) (ha3 : X.getD (i + 3) 0 = a3) (H : CI b h h) (hb : b + 20 ≤ 1000000) (IH : ∀ g, CI (b + 20) g g → la_at X n (i + 4) g) : la_at X (n + 1) i h := by
  rcases rnd (C := fun h => p_110 h) (M := fun m => p_231 m) (fun h m H => call_13 H hb) H with ⟨v, h1, h2, e1, e2, e3, e4, e5⟩ | ⟨id, e, v, h1, h2, hx, e1, e2, e3, e4⟩
  · exact la_c13_n hi hl hop e1 e2 e3 e4 (IH h2 e5)
  · simp only [List.mem_cons, List.not_mem_nil, or_false, Prod.mk.injEq] at hx
    obtain ⟨rfl, rfl⟩ := hx
    exact la_c13_x1 hi hl hop e1 e2 e3 (IH h2 e4)
theorem rd_14 {w a1 a2 a3 : Int32} (hi : i + 4 ≤ X.length) (hl : X.length ≤ 2048) (hop : X.getD i 0 &&& 31 = 14) (ha1 : X.getD (i + 1) 0 = a1) (ha2 : X.getD (i + 2) 0 = a2) (ha3 : X.getD (i + 3) 0 = a3) (H : CI b h h) (hb : b + 20 ≤ 1000000) (IH : ∀ g, CI (b + 20) g g → la_at X n (i + 4) g) : la_at X (n + 1) i h := by
  rcases rnd (C := fun h => p_111 h a1) (M := fun m => p_232 m a1) (fun h m H => call_14 H hb) H with ⟨v, h1, h2, e1, e2, e3, e4, e5⟩ | ⟨id, e, v, h1, h2, hx, e1, e2, e3, e4⟩
  · exact la_c14_n hi hl hop ha1 e1 e2 e3 e4 (IH h2 e5)
  · simp only [List.mem_cons, List.not_mem_nil, or_false, Prod.mk.injEq] at hx
    obtain ⟨rfl, rfl⟩ := hx
    exact la_c14_x2 hi hl hop ha1 e1 e2 e3 (IH h2 e4)
theorem rd_15 {w a1 a2 a3 : Int32} (hi : i + 4 ≤ X.length) (hl : X.length ≤ 2048) (hop : X.getD i 0 &&& 31 = 15) (ha1 : X.getD (i + 1) 0 = a1) (ha2 : X.getD (i + 2) 0 = a2) (ha3 : X.getD (i + 3) 0 = a3) (H : CI b h h) (hb : b + 20 ≤ 1000000) (IH : ∀ g, CI (b + 20) g g → la_at X n (i + 4) g) : la_at X (n + 1) i h := by
  rcases rnd (C := fun h => (p_112 h a1).map fun r => (r, h)) (M := fun m => p_233 m a1) (fun h m H => call_15 H hb) H with ⟨v, h1, h2, e1, e2, e3, e4, e5⟩ | ⟨id, e, v, h1, h2, hx, e1, e2, e3, e4⟩
  · obtain ⟨f1, rfl⟩ := map_in e1
    exact la_c15_n hi hl hop ha1 f1 e2 e3 e4 (IH h2 e5)
  · simp only [List.mem_cons, List.not_mem_nil, or_false, Prod.mk.injEq] at hx
    obtain ⟨rfl, rfl⟩ := hx
    obtain ⟨f1, rfl⟩ := map_in e1
    exact la_c15_x2 hi hl hop ha1 f1 e2 e3 (IH h2 e4)
theorem rd_16 {w a1 a2 a3 : Int32} (hi : i + 4 ≤ X.length) (hl : X.length ≤ 2048) (hop : X.getD i 0 &&& 31 = 16) (ha1 : X.getD (i + 1) 0 = a1) (ha2 : X.getD (i + 2) 0 = a2) (ha3 : X.getD (i + 3) 0 = a3) (H : CI b h h) (hb : b + 20 ≤ 1000000) (IH : ∀ g, CI (b + 20) g g → la_at X n (i + 4) g) : la_at X (n + 1) i h := by
  rcases rnd (C := fun h => (p_113 h a1).map fun r => (r, h)) (M := fun m => p_234 m a1) (fun h m H => call_16 H hb) H with ⟨v, h1, h2, e1, e2, e3, e4, e5⟩ | ⟨id, e, v, h1, h2, hx, e1, e2, e3, e4⟩
  · obtain ⟨f1, rfl⟩ := map_in e1
    exact la_c16_n hi hl hop ha1 f1 e2 e3 e4 (IH h2 e5)
  · simp only [List.mem_cons, List.not_mem_nil, or_false, Prod.mk.injEq] at hx
    obtain ⟨rfl, rfl⟩ := hx
    obtain ⟨f1, rfl⟩ := map_in e1
    exact la_c16_x2 hi hl hop ha1 f1 e2 e3 (IH h2 e4)
theorem rd_17 {w a1 a2 a3 : Int32} (hi : i + 4 ≤ X.length) (hl : X.length ≤ 2048) (hop : X.getD i 0 &&& 31 = 17) (ha1 : X.getD (i + 1) 0 = a1) (ha2 : X.getD (i + 2) 0 = a2) (ha3 : X.getD (i + 3) 0 = a3) (H : CI b h h) (hb : b + 20 ≤ 1000000) (IH : ∀ g, CI (b + 20) g g → la_at X n (i + 4) g) : la_at X (n + 1) i h := by
  rcases rnd (C := fun h => p_114 h a1 a2) (M := fun m => p_238 m a1 a2) (fun h m H => call_17 H hb) H with ⟨v, h1, h2, e1, e2, e3, e4, e5⟩ | ⟨id, e, v, h1, h2, hx, e1, e2, e3, e4⟩
  · exact la_c17_n hi hl hop ha1 ha2 e1 e2 e3 e4 (IH h2 e5)
  · simp only [List.mem_cons, List.not_mem_nil, or_false, Prod.mk.injEq] at hx
    rcases hx with ⟨rfl, h0⟩ | ⟨rfl, h0⟩
    · exact la_c17_x2 hi hl hop ha1 ha2 e1 e2 (e3.trans h0) (IH h2 e4)
    · exact la_c17_x1 hi hl hop ha1 ha2 e1 e2 (e3.trans h0) (IH h2 e4)
theorem rd_18 {w a1 a2 a3 : Int32} (hi : i + 4 ≤ X.length) (hl : X.length ≤ 2048) (hop : X.getD i 0 &&& 31 = 18) (ha1 : X.getD (i + 1) 0 = a1) (ha2 : X.getD (i + 2) 0 = a2) (ha3 : X.getD (i + 3) 0 = a3) (H : CI b h h) (hb : b + 20 ≤ 1000000) (IH : ∀ g, CI (b + 20) g g → la_at X n (i + 4) g) : la_at X (n + 1) i h := by
  rcases rnd (C := fun h => p_115 h a1 a2) (M := fun m => p_241 m a1 a2) (fun h m H => call_18 H hb) H with ⟨v, h1, h2, e1, e2, e3, e4, e5⟩ | ⟨id, e, v, h1, h2, hx, e1, e2, e3, e4⟩
  · exact la_c18_n hi hl hop ha1 ha2 e1 e2 e3 e4 (IH h2 e5)
  · simp only [List.mem_cons, List.not_mem_nil, or_false, Prod.mk.injEq] at hx
    rcases hx with ⟨rfl, h0⟩ | ⟨rfl, h0⟩
    · exact la_c18_x2 hi hl hop ha1 ha2 e1 e2 (e3.trans h0) (IH h2 e4)
    · exact la_c18_x1 hi hl hop ha1 ha2 e1 e2 (e3.trans h0) (IH h2 e4)
theorem rd_19 {w a1 a2 a3 : Int32} (hi : i + 4 ≤ X.length) (hl : X.length ≤ 2048) (hop : X.getD i 0 &&& 31 = 19) (ha1 : X.getD (i + 1) 0 = a1) (ha2 : X.getD (i + 2) 0 = a2) (ha3 : X.getD (i + 3) 0 = a3) (H : CI b h h) (hb : b + 20 ≤ 1000000) (IH : ∀ g, CI (b + 20) g g → la_at X n (i + 4) g) : la_at X (n + 1) i h := by
  rcases rnd (C := fun h => p_116 h (la_i2c a1) a2) (M := fun m => p_242 m (la_i2c a1) a2) (fun h m H => call_19 H hb) H with ⟨v, h1, h2, e1, e2, e3, e4, e5⟩ | ⟨id, e, v, h1, h2, hx, e1, e2, e3, e4⟩
  · exact la_c19_n hi hl hop ha1 ha2 e1 e2 e3 e4 (IH h2 e5)
  · simp only [List.mem_cons, List.not_mem_nil, or_false, Prod.mk.injEq] at hx
    rcases hx with ⟨rfl, h0⟩ | ⟨rfl, h0⟩
    · exact la_c19_x0 hi hl hop ha1 ha2 e1 e2 (e3.trans h0) (IH h2 e4)
    · exact la_c19_x1 hi hl hop ha1 ha2 e1 e2 (e3.trans h0) (IH h2 e4)
theorem rd_20 {w a1 a2 a3 : Int32} (hi : i + 4 ≤ X.length) (hl : X.length ≤ 2048) (hop : X.getD i 0 &&& 31 = 20) (ha1 : X.getD (i + 1) 0 = a1) (ha2 : X.getD (i + 2) 0 = a2) (ha3 : X.getD (i + 3) 0 = a3) (H : CI b h h) (hb : b + 20 ≤ 1000000) (IH : ∀ g, CI (b + 20) g g → la_at X n (i + 4) g) : la_at X (n + 1) i h := by
  rcases rnd (C := fun h => p_117 h a1) (M := fun m => p_243 m a1) (fun h m H => call_20 H hb) H with ⟨v, h1, h2, e1, e2, e3, e4, e5⟩ | ⟨id, e, v, h1, h2, hx, e1, e2, e3, e4⟩
  · exact la_c20_n hi hl hop ha1 e1 e2 e3 e4 (IH h2 e5)
  · simp only [List.mem_cons, List.not_mem_nil, or_false, Prod.mk.injEq] at hx
    obtain ⟨rfl, rfl⟩ := hx
    exact la_c20_x2 hi hl hop ha1 e1 e2 e3 (IH h2 e4)
theorem rd_21 {w a1 a2 a3 : Int32} (hi : i + 4 ≤ X.length) (hl : X.length ≤ 2048) (hop : X.getD i 0 &&& 31 = 21) (ha1 : X.getD (i + 1) 0 = a1) (ha2 : X.getD (i + 2) 0 = a2) (ha3 : X.getD (i + 3) 0 = a3) (H : CI b h h) (hb : b + 20 ≤ 1000000) (IH : ∀ g, CI (b + 20) g g → la_at X n (i + 4) g) : la_at X (n + 1) i h := by
  rcases rnd (C := fun h => (p_118 h a1).map fun r => (r, h)) (M := fun m => p_244 m a1) (fun h m H => call_21 H hb) H with ⟨v, h1, h2, e1, e2, e3, e4, e5⟩ | ⟨id, e, v, h1, h2, hx, e1, e2, e3, e4⟩
  · obtain ⟨f1, rfl⟩ := map_in e1
    exact la_c21_n hi hl hop ha1 f1 e2 e3 e4 (IH h2 e5)
  · simp only [List.mem_cons, List.not_mem_nil, or_false, Prod.mk.injEq] at hx
    obtain ⟨rfl, rfl⟩ := hx
    obtain ⟨f1, rfl⟩ := map_in e1
    exact la_c21_x2 hi hl hop ha1 f1 e2 e3 (IH h2 e4)
theorem rd_22 {w a1 a2 a3 : Int32} (hi : i + 4 ≤ X.length) (hl : X.length ≤ 2048) (hop : X.getD i 0 &&& 31 = 22) (ha1 : X.getD (i + 1) 0 = a1) (ha2 : X.getD (i + 2) 0 = a2) (ha3 : X.getD (i + 3) 0 = a3) (H : CI b h h) (hb : b + 20 ≤ 1000000) (IH : ∀ g, CI (b + 20) g g → la_at X n (i + 4) g) : la_at X (n + 1) i h := by
  obtain ⟨e1, e2⟩ := call_22 H hb
  exact la_c22_n hi hl hop rfl e1 (IH _ (CI_cross e2 (fun z hz => w_up_ne (by omega)) (fun _ _ _ => rfl)))
theorem rd_23 {w a1 a2 a3 : Int32} (hi : i + 4 ≤ X.length) (hl : X.length ≤ 2048) (hop : X.getD i 0 &&& 31 = 23) (ha1 : X.getD (i + 1) 0 = a1) (ha2 : X.getD (i + 2) 0 = a2) (ha3 : X.getD (i + 3) 0 = a3) (H : CI b h h) (hb : b + 20 ≤ 1000000) (IH : ∀ g, CI (b + 20) g g → la_at X n (i + 4) g) : la_at X (n + 1) i h := by
  obtain ⟨e1, e2⟩ := call_23 H hb
  exact la_c23_n hi hl hop rfl e1 (IH _ (CI_cross e2 (fun z hz => w_up_ne (by omega)) (fun _ _ _ => rfl)))
theorem la_all (hl : X.length ≤ 2048) : ∀ (n i b : Nat) (h : Hp), i ≤ X.length → X.length < i + 4 * n + 4 → b + 20 * n ≤ 1000000 → CI b h h → la_at X n i h := by
  intro n
  induction n with
  | zero => intro i b h h1 h2 _ _; exact la_end (by omega) h1 hl
  | succ n ih =>
    intro i b h h1 h2 hb H
    by_cases hi : X.length < i + 4
    · exact la_end hi h1 hl
    have hi : i + 4 ≤ X.length := by omega
    have IH : ∀ g, CI (b + 20) g g → la_at X n (i + 4) g := fun g hg => ih (i + 4) (b + 20) g hi (by omega) (by omega) hg
    have hb : b + 20 ≤ 1000000 := by omega
    obtain ⟨r, hr, hop⟩ := op_lt (X.getD i 0)
    have cd : (if X.getD i 0 &&& 31 < 0 then 844 else ([25, 72, 117, 162, 217, 252, 309, 357, 402, 409, 444, 479, 486, 493, 518, 553, 588, 623, 668, 713, 760, 795, 830, 837]).getD (X.getD i 0 &&& 31).toNatClampNeg 844) = 844 → la_at X (n + 1) i h := fun hc => la_cd hi hl hc (IH h (CI_cross (CI_20 H hb) (fun _ _ => rfl) (fun _ _ _ => rfl)))
    match r, hr, hop with
    | 0, _, hop => exact rd_0 (w := 0) hi hl hop rfl rfl rfl H hb IH
    | 1, _, hop => exact rd_1 (w := 0) hi hl hop rfl rfl rfl H hb IH
    | 2, _, hop => exact rd_2 (w := 0) hi hl hop rfl rfl rfl H hb IH
    | 3, _, hop => exact rd_3 (w := 0) hi hl hop rfl rfl rfl H hb IH
    | 4, _, hop => exact rd_4 (w := 0) hi hl hop rfl rfl rfl H hb IH
    | 5, _, hop => exact rd_5 (w := 0) hi hl hop rfl rfl rfl H hb IH
    | 6, _, hop => exact rd_6 (w := 0) hi hl hop rfl rfl rfl H hb IH
    | 7, _, hop => exact rd_7 (w := 0) hi hl hop rfl rfl rfl H hb IH
    | 8, _, hop => exact rd_8 (w := 0) hi hl hop rfl rfl rfl H hb IH
    | 9, _, hop => exact rd_9 (w := 0) hi hl hop rfl rfl rfl H hb IH
    | 10, _, hop => exact rd_10 (w := 0) hi hl hop rfl rfl rfl H hb IH
    | 11, _, hop => exact rd_11 (w := 0) hi hl hop rfl rfl rfl H hb IH
    | 12, _, hop => exact rd_12 (w := 0) hi hl hop rfl rfl rfl H hb IH
    | 13, _, hop => exact rd_13 (w := 0) hi hl hop rfl rfl rfl H hb IH
    | 14, _, hop => exact rd_14 (w := 0) hi hl hop rfl rfl rfl H hb IH
    | 15, _, hop => exact rd_15 (w := 0) hi hl hop rfl rfl rfl H hb IH
    | 16, _, hop => exact rd_16 (w := 0) hi hl hop rfl rfl rfl H hb IH
    | 17, _, hop => exact rd_17 (w := 0) hi hl hop rfl rfl rfl H hb IH
    | 18, _, hop => exact rd_18 (w := 0) hi hl hop rfl rfl rfl H hb IH
    | 19, _, hop => exact rd_19 (w := 0) hi hl hop rfl rfl rfl H hb IH
    | 20, _, hop => exact rd_20 (w := 0) hi hl hop rfl rfl rfl H hb IH
    | 21, _, hop => exact rd_21 (w := 0) hi hl hop rfl rfl rfl H hb IH
    | 22, _, hop => exact rd_22 (w := 0) hi hl hop rfl rfl rfl H hb IH
    | 23, _, hop => exact rd_23 (w := 0) hi hl hop rfl rfl rfl H hb IH
    | 24, _, hop => exact cd (by rw [hop]; decide)
    | 25, _, hop => exact cd (by rw [hop]; decide)
    | 26, _, hop => exact cd (by rw [hop]; decide)
    | 27, _, hop => exact cd (by rw [hop]; decide)
    | 28, _, hop => exact cd (by rw [hop]; decide)
    | 29, _, hop => exact cd (by rw [hop]; decide)
    | 30, _, hop => exact cd (by rw [hop]; decide)
    | 31, _, hop => exact cd (by rw [hop]; decide)
    | r + 32, hr, _ => exact absurd hr (by omega)
theorem whole_good (hl : X.length ≤ 2048) : j_Good X := la_start (la_all hl 512 0 0 w_h0 (Nat.zero_le _) (by omega) (by decide) i_ci)
end SD6
