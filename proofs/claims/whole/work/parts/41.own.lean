/-! ===== the states of both sides are the same; the next cell to be run ===== -/
/-- class and model know the same of the runs -/
def RC (h m : Hp) (n nw : Nat) : Prop := (∀ w, w < nw → h 8 w = m 1115 w) ∧ (∀ c, c < n → (¬ h (64 * c + 52) 15 = 0 ↔ (¬ m 1087 c ≤ 0 ∧ m 1089 c = m 1082 c)) ∧ h (64 * c + 52) 14 = m 1088 c ∧ 0 ≤ m 1088 c ∧ (¬ h (64 * c + 52) 15 = 0 → 0 < m 1088 c ∧ h (64 * c + 52) 13 = m 1090 c ∧ (∀ w, w < nw → bt (m 1090 c) (16 + w) = true → h (64 * c + 79) w = m 1091 (4 * c + w)) ∧ (h (64 * c + 52) 11 = 0 ↔ m 1087 c = 1))) ∧ ∀ c k, c < n → k < n → c ≠ k → m 1088 c = m 1088 k → m 1088 c = 0
theorem ndh_self {h : Hp} {n nw c : Nat} : ndh h n nw c c = false := by
  unfold ndh
  have : ∀ k, anyb (fun x => bt (h (64 * c + 55) 7) x && gvb (dfh h n nw x) (chh h n x) c c) k = false := by
    intro k
    induction k with
    | zero => rfl
    | succ k ih => simp only [anyb]; rw [ih, gvb_gmb]; simp
  exact this 26
section M41
variable {h m : Hp} {n nw : Nat}
theorem m_187 (H : MW h m n nw) (hW : ∀ c, c < n → ∀ j, j < 32 → bt (h 14 c) j = ndh h n nw c j) (hR : RC h m n nw) : ∀ g c, w_fr lkP m g → LK h g n nw → c < n → p_187 g (Int32.ofNat c) = some (own h n nw c) := by
  intro g c hf hL hc
  have h16 := H.1; have h4 := H.2.1
  obtain ⟨r1, r2, r3⟩ := hR
  obtain ⟨a1, a2, a3, a4⟩ := r2 c hc
  have e0 : g 1120 c = h 14 c := bt_ext (fun j hj => by rw [(hL c hc j hj).1, hW c hc j hj])
  have g1 : ∀ q, q < 1120 → g q = m q := fun q hq => hf q (by unfold lkP; omega)
  have hnd : ∀ k, k < n → bt (h 14 c) k = ndh h n nw c k := fun k hk => hW c hc k (by omega)
  let I0 : Bool := !decide (m 1087 c ≤ 0) && (decide (m 1089 c = m 1082 c) && decide (m 1090 c = h 14 c))
  let A : Nat → Bool := anyb (fun k => ndh h n nw c k && !decide (m 1088 k < m 1088 c))
  let B : Nat → Bool := anyb (fun w => bt (h 14 c) (16 + w) && !decide (m 1091 (4 * c + w) = m 1115 w))
  have l1 : w_lp (fun (s : Int32 × Int32) => l_187_29 g (Int32.ofNat c) s.1 s.2) w_N (ofB I0, 0) = some (ofB (I0 && !A n)) := by
    rw [show ((ofB I0, 0) : Int32 × Int32) = (ofB (I0 && !A 0), Int32.ofNat 0) by simp [A, anyb]]
    refine u_for (N := w_N) (fun i => (ofB (I0 && !A i), Int32.ofNat i)) n (by unfold w_N; omega) ?_ ?_
    · intro i hi
      have hn := H.2.2.1
      simp (disch := omega) only [l_187_29, g1, hn, u_lt, hi, if_true, u_ix, u_cl, w_gd, e0, bt_shr, hnd, u_b01, u_S, Bool.true_and, ite_self]
      have hS : A (i + 1) = (A i || (ndh h n nw c i && !decide (m 1088 i < m 1088 c))) := rfl
      rw [hS]
      generalize A i = a
      generalize ndh h n nw c i = d
      by_cases s1 : m 1088 i < m 1088 c <;> cases I0 <;> cases a <;> cases d <;> simp [ofB, s1]
    · have hn := H.2.2.1
      simp (disch := omega) only [l_187_29, g1, hn, u_lt, Nat.lt_irrefl, if_false]
  have l2 : w_lp (fun (s : Int32 × Int32) => l_187_61 g (Int32.ofNat c) s.1 s.2) w_N (ofB (I0 && !A n), 0) = some (ofB (I0 && !A n && !B nw)) := by
    generalize (I0 && !A n) = I1
    rw [show ((ofB I1, 0) : Int32 × Int32) = (ofB (I1 && !B 0), Int32.ofNat 0) by simp [B, anyb]]
    refine u_for (N := w_N) (fun i => (ofB (I1 && !B i), Int32.ofNat i)) nw (by unfold w_N; omega) ?_ ?_
    · intro i hi
      have hn := H.2.2.2.1
      have e16 : (16 : Int32) + Int32.ofNat i = Int32.ofNat (16 + i) := u_add 16 i
      have e4 : (4 : Int32) * Int32.ofNat c + Int32.ofNat i = Int32.ofNat (4 * c + i) := by
        rw [show (4 : Int32) = Int32.ofNat 4 by rfl, u_mul, u_add]
      simp (disch := omega) only [l_187_61, g1, hn, u_lt, hi, if_true, u_ix, u_cl, w_gd, e0, e16, e4, bt_shr, u_b01, u_S, Bool.true_and, ite_self]
      have hS : B (i + 1) = (B i || (bt (h 14 c) (16 + i) && !decide (m 1091 (4 * c + i) = m 1115 i))) := rfl
      rw [hS]
      generalize B i = a
      generalize bt (h 14 c) (16 + i) = d
      by_cases s1 : m 1091 (4 * c + i) = m 1115 i <;> cases I1 <;> cases a <;> cases d <;> simp [ofB, s1]
    · have hn := H.2.2.2.1
      simp (disch := omega) only [l_187_61, g1, hn, u_lt, Nat.lt_irrefl, if_false]
  have hI : (if m 1087 c ≤ 0 then (0 : Int32) else if m 1089 c = m 1082 c then if m 1090 c = h 14 c then 1 else 0 else 0) = ofB I0 := by
    simp only [I0]
    by_cases s1 : m 1087 c ≤ 0 <;> by_cases s2 : m 1089 c = m 1082 c <;> by_cases s3 : m 1090 c = h 14 c <;> simp [ofB, s1, s2, s3]
  unfold p_187
  simp (disch := omega) only [g1, u_ix, u_cl, w_gd, Bool.and_self, ite_self, q_187_26, e0, hI, l1, l2, Option.bind_some]
  refine congrArg some ?_
  unfold own asT
  by_cases hr : h (64 * c + 52) 15 = 0
  · have : I0 = false := by
      have hh := (not_congr a1).mp (fun e => e hr)
      simp only [I0]
      by_cases s1 : m 1087 c ≤ 0
      · simp [s1]
      · by_cases s2 : m 1089 c = m 1082 c
        · exact absurd ⟨s1, s2⟩ hh
        · simp [s2]
    simp [this, ofB, hr]
  · obtain ⟨b1, b2, b3, b4⟩ := a4 hr
    obtain ⟨d1, d2⟩ := a1.mp hr
    by_cases hx : m 1090 c = h 14 c
    · have i1 : I0 = true := by simp only [I0]; simp [d1, d2, hx]
      have eA : A n = anyb (fun k => ndc h n nw c k && decide (h (64 * c + 52) 14 < h (64 * k + 52) 14)) n := by
        refine anyb_congr n (fun k hk => ?_)
        have e1 : ndc h n nw c k = ndh h n nw c k := by unfold ndc; simp; intro _; omega
        rw [e1, a2, (r2 k hk).2.1]
        by_cases hkc : k = c
        · subst hkc; rw [ndh_self]; rfl
        · have hne : ¬ m 1088 k = m 1088 c := by
            intro e
            have := r3 k c hk hc hkc e
            rw [e] at this; rw [this] at b1; exact absurd b1 (by decide)
          have : decide (m 1088 k < m 1088 c) = !decide (m 1088 c < m 1088 k) := by
            by_cases s : m 1088 k < m 1088 c
            · have : ¬ m 1088 c < m 1088 k := by grind
              simp [s, this]
            · have : m 1088 c < m 1088 k := by grind
              simp [s, this]
          rw [this, Bool.not_not]
      have eB : anyb (fun w => bt (h 14 c) (16 + w) && !decide (shv h nw w = h (64 * c + 52 + 27) w)) 4 = B nw := by
        have hz : ∀ w, nw ≤ w → w < 4 → bt (h 14 c) (16 + w) = false := by
          intro w hw1 hw2
          rw [hW c hc (16 + w) (by omega)]
          cases hb : ndh h n nw c (16 + w) with
          | false => rfl
          | true =>
            exfalso
            obtain ⟨x, hx2, hx3⟩ := (anyb_iff 26).mp hb
            simp only [Bool.and_eq_true] at hx3
            have := hx3.2
            unfold gvb at this
            split at this
            · rename_i l hl
              have h1 := (lst_lt _ hl).1
              simp at this; omega
            · simp only [Bool.and_eq_true] at this
              have h2 := this.1
              unfold dfh at h2
              simp at h2; omega
        have hk : ∀ k, nw ≤ k → k ≤ 4 → anyb (fun w => bt (h 14 c) (16 + w) && !decide (shv h nw w = h (64 * c + 52 + 27) w)) k = anyb (fun w => bt (h 14 c) (16 + w) && !decide (shv h nw w = h (64 * c + 52 + 27) w)) nw := by
          intro k hk
          induction hk with
          | refl => intro _; rfl
          | step hk ih => intro h2; simp only [anyb]; rw [ih (by omega), hz _ hk (by omega)]; simp
        rw [hk 4 h4 (Nat.le_refl 4)]
        refine anyb_congr nw (fun w hw => ?_)
        cases hb : bt (h 14 c) (16 + w) with
        | false => rfl
        | true =>
          have e1 := b3 w hw (by rw [hx]; exact hb)
          unfold shv
          rw [if_pos hw, r1 w hw, show 64 * c + 52 + 27 = 64 * c + 79 by omega, e1]
          simp only [Bool.true_and]
          congr 1
          simp only [decide_eq_decide]
          exact eq_comm
      rw [eB, ← eA, i1]
      have e13 : h 14 c = h (64 * c + 52) 13 := by rw [b2, hx]
      cases A n with
      | true => simp [ofB]
      | false =>
        cases B nw with
        | true => simp [ofB, hr]
        | false =>
          by_cases hq : h (64 * c + 52) 11 = 0
          · simp [ofB, hr, e13, hq, b4.mp hq]
          · have : ¬ m 1087 c = 1 := fun e => hq (b4.mpr e)
            simp [ofB, hr, e13, hq, this]
    · have i1 : I0 = false := by simp only [I0]; simp [hx]
      have : ¬ h 14 c = h (64 * c + 52) 13 := by rw [b2]; exact fun e => hx e.symm
      simp [i1, ofB, this]
theorem own_nn {c : Nat} : 0 ≤ own h n nw c := by
  unfold own
  split
  · decide
  · split
    · split <;> decide
    · decide
/-- all that a cell needs is FRESH; it is STALE and can be run -/
def rdy (n : Nat) (nd : Nat → Nat → Bool) (s : Nat → Int32) (c : Nat) : Bool := !anyb (fun k => nd c k && !decide (s k = 0)) n
theorem s_136 {g : Hp} {c : Nat} {nd : Nat → Nat → Bool} {s : Nat → Int32} (h16 : n ≤ 16) (hn : g 0 10 = Int32.ofNat n) (hc : c < n) (hnd : ∀ j, j < n → bt (g 14 c) j = nd c j) (hs : ∀ j, j < n → g 3 j = s j) : p_136 g (Int32.ofNat c) = some (ofB (rdy n nd s c)) := by
  have : ok (p_136 g (Int32.ofNat c)) (fun r => r = ofB (rdy n nd s c)) := by
    unfold p_136
    refine ok_for (fun i q => q = Int32.ofNat i ∧ anyb (fun k => nd c k && !decide (s k = 0)) i = false) n ⟨rfl, rfl⟩ (by unfold w_N; omega) ?_ ?_
    · rintro i q hi ⟨e, h0⟩
      subst e
      simp (disch := omega) only [l_136_2, hn, u_lt, hi, if_true, u_ix, u_cl, w_gd, u_has, hnd, u_b01, hs, u_S]
      cases hb : nd c i with
      | false => exact ⟨_, rfl, rfl, by simp only [anyb, h0, hb]; rfl⟩
      | true =>
        by_cases h3 : s i = 0
        · simp only [h3, if_true]
          exact ⟨_, rfl, rfl, by simp only [anyb, h0, hb, h3]; simp⟩
        · simp only [h3, if_true, if_false]
          refine ⟨_, rfl, ?_⟩
          have : anyb (fun k => nd c k && !decide (s k = 0)) n = true := (anyb_iff n).mpr ⟨i, hi, by simp [hb, h3]⟩
          show _ = ofB (rdy n nd s c)
          unfold rdy
          rw [this]; rfl
    · rintro q ⟨e, h0⟩
      subst e
      simp (disch := omega) only [l_136_2, hn, u_lt, Nat.lt_irrefl, if_false]
      exact ok_some (by unfold rdy; rw [h0]; rfl)
  obtain ⟨r, e1, e2⟩ := this
  rw [e1, e2]
/-- which may be run next, of a set -/
def nxr (n : Nat) (nd : Nat → Nat → Bool) (s : Nat → Int32) (a : Nat → Bool) (c : Nat) : Bool := a c && (decide (s c = 1) && rdy n nd s c)
theorem s_135 {g : Hp} {x : Int32} {nd : Nat → Nat → Bool} {s : Nat → Int32} (h16 : n ≤ 16) (hn : g 0 10 = Int32.ofNat n) (hnd : ∀ c, c < n → ∀ j, j < n → bt (g 14 c) j = nd c j) (hs : ∀ j, j < n → g 3 j = s j) : p_135 g x = some (oi (fst1 (nxr n nd s (bt x)) n)) := by
  have : ok (p_135 g x) (fun r => r = oi (fst1 (nxr n nd s (bt x)) n)) := by
    unfold p_135
    refine ok_for (fun i q => q = Int32.ofNat i ∧ fst1 (nxr n nd s (bt x)) i = none) n ⟨rfl, rfl⟩ (by unfold w_N; omega) ?_ ?_
    · rintro i q hi ⟨e, h0⟩
      subst e
      have go : nxr n nd s (bt x) i = false → fst1 (nxr n nd s (bt x)) (i + 1) = none := fun hf => by simp only [fst1, h0, hf]; rfl
      have stop : nxr n nd s (bt x) i = true → fst1 (nxr n nd s (bt x)) n = some i := fun hf => fst1_at h0 hf hi
      simp (disch := omega) only [l_135_2, hn, u_lt, hi, if_true, u_ix, u_cl, w_gd, u_has, u_b01, hs, u_S, s_136 h16 hn hi (hnd i hi) hs, Option.bind_some]
      have hx : nxr n nd s (bt x) i = (bt x i && (decide (s i = 1) && rdy n nd s i)) := rfl
      cases c1 : bt x i with
      | false => exact ⟨_, rfl, rfl, go (by rw [hx, c1]; rfl)⟩
      | true =>
        by_cases c2 : s i = 1
        · simp only [c2, if_true]
          cases c3 : rdy n nd s i with
          | false => exact ⟨_, rfl, rfl, go (by rw [hx, c1, c3]; simp)⟩
          | true => exact ⟨_, rfl, by rw [stop (by rw [hx, c1, c3, c2]; rfl)]; rfl⟩
        · simp only [c2, if_true, if_false]
          exact ⟨_, rfl, rfl, go (by rw [hx, c1]; simp [c2])⟩
    · rintro q ⟨e, h0⟩
      subst e
      simp (disch := omega) only [l_135_2, hn, u_lt, Nat.lt_irrefl, if_false]
      exact ok_some (by rw [h0]; rfl)
  obtain ⟨r, e1, e2⟩ := this
  rw [e1, e2]
theorem m_189 {g : Hp} {x : Int32} {s : Nat → Int32} {f : Nat → Bool} (h16 : n ≤ 16) (hn : g 1076 2 = Int32.ofNat n) (hb : ∀ j, j < n → bt x j = f j) (hs : ∀ j, j < n → g 1122 j = s j) : p_189 g x = some (ofB (!anyb (fun k => f k && !decide (s k = 0)) n)) := by
  unfold p_189
  refine u_for (N := w_N) (fun i => (ofB (!anyb (fun k => f k && !decide (s k = 0)) i), Int32.ofNat i)) n (by unfold w_N; omega) ?_ ?_
  · intro i hi
    simp (disch := omega) only [l_189_4, hn, u_lt, hi, if_true, u_ix, u_cl, w_gd, bt_shr, hb, u_b01, hs, u_S, anyb, ite_self]
    generalize anyb (fun k => f k && !decide (s k = 0)) i = a
    generalize f i = d
    by_cases s1 : s i = 0 <;> cases a <;> cases d <;> simp [ofB, s1]
  · simp (disch := omega) only [l_189_4, hn, u_lt, Nat.lt_irrefl, if_false]
    generalize (!anyb (fun k => f k && !decide (s k = 0)) n) = b
    cases b <;> rfl
/-- loops that go down find the first -/
theorem fst1_down {f : Nat → Bool} : ∀ k, k ≤ n → (∀ i, i < k → f i = false) → (∀ c, fst1 (fun i => decide (k ≤ i) && f i) n = c → fst1 f n = c) := by
  intro k hk hno c hc
  rw [← hc]
  refine fst1_congr n (fun i hi => ?_)
  by_cases h : k ≤ i
  · simp [h]
  · rw [hno i (by omega)]; simp [h]
theorem fst1_step {f : Nat → Bool} {k : Nat} (hk : k < n) : fst1 (fun i => decide (k ≤ i) && f i) n = if f k = true then some k else fst1 (fun i => decide (k + 1 ≤ i) && f i) n := by
  have h0 : fst1 (fun i => decide (k ≤ i) && f i) k = none := by
    cases hh : fst1 (fun i => decide (k ≤ i) && f i) k with
    | none => rfl
    | some q =>
      obtain ⟨a, b, -⟩ := fst1_lt k hh
      simp at b; omega
  by_cases hf : f k = true
  · rw [if_pos hf]
    exact fst1_at h0 (by simp [hf]) hk
  · rw [if_neg hf]
    refine fst1_congr n (fun i hi => ?_)
    by_cases e : i = k
    · subst e; simp [hf]
    · by_cases h1 : k ≤ i
      · simp [h1, show k + 1 ≤ i by omega]
      · simp [h1, show ¬ k + 1 ≤ i by omega]
theorem m_190 {g : Hp} {x : Int32} {nd : Nat → Nat → Bool} {s : Nat → Int32} (h16 : n ≤ 16) (hn : g 1076 2 = Int32.ofNat n) (hnd : ∀ c, c < n → ∀ j, j < n → bt (g 1120 c) j = nd c j) (hs : ∀ j, j < n → g 1122 j = s j) : p_190 g x = some (oi (fst1 (nxr n nd s (bt x)) n)) := by
  unfold p_190
  have hstart : g 1076 2 - 1 = Int32.ofNat n + (-1) := by rw [hn]; grind
  rw [hstart]
  have key : ∀ k N, k ≤ n → k < N → w_lp (fun (q : Int32 × Int32) => l_190_7 g x q.1 q.2) N (oi (fst1 (fun i => decide (k ≤ i) && nxr n nd s (bt x) i) n), Int32.ofNat k + (-1)) = some (oi (fst1 (nxr n nd s (bt x)) n)) := by
    intro k
    induction k with
    | zero =>
      intro N _ hN
      obtain ⟨N, rfl⟩ : ∃ q, N = q + 1 := ⟨N - 1, by omega⟩
      have e : fst1 (fun i => decide (0 ≤ i) && nxr n nd s (bt x) i) n = fst1 (nxr n nd s (bt x)) n := fst1_congr n (fun i _ => by simp)
      rw [e]
      exact u_once (by omega) (by simp only [l_190_7]; rw [if_pos (by decide)])
    | succ k ih =>
      intro N hk hN
      obtain ⟨N, rfl⟩ : ∃ q, N = q + 1 := ⟨N - 1, by omega⟩
      rw [u_pred]
      have ihk := ih N (by omega) (by omega)
      rw [fst1_step (by omega)] at ihk
      have hstep : l_190_7 g x (oi (fst1 (fun i => decide (k + 1 ≤ i) && nxr n nd s (bt x) i) n)) (Int32.ofNat k) = some (.inl (oi (if nxr n nd s (bt x) k = true then some k else fst1 (fun i => decide (k + 1 ≤ i) && nxr n nd s (bt x) i) n), Int32.ofNat k + (-1))) := by
        have hlt : ¬ Int32.ofNat k < 0 := u_lt0 (by omega)
        have h9 := m_189 (x := g 1120 k) (s := s) (f := nd k) h16 hn (hnd k (by omega)) hs
        simp (disch := omega) only [l_190_7, hlt, if_false, bt_shr, u_b11, u_ix, u_cl, w_gd, hs, h9, Option.bind_some]
        have hx : nxr n nd s (bt x) k = (bt x k && (decide (s k = 1) && !anyb (fun j => nd k j && !decide (s j = 0)) n)) := rfl
        rw [hx]
        by_cases s1 : s k = 1 <;> cases bt x k <;> cases anyb (fun j => nd k j && !decide (s j = 0)) n <;> simp [ofB, s1, oi]
      simp only [w_lp, hstep]
      exact ihk
  have e : fst1 (fun i => decide (n ≤ i) && nxr n nd s (bt x) i) n = none := by
    cases hh : fst1 (fun i => decide (n ≤ i) && nxr n nd s (bt x) i) n with
    | none => rfl
    | some q =>
      obtain ⟨a, b, -⟩ := fst1_lt n hh
      simp at b; omega
  have := key n w_N (Nat.le_refl n) (by unfold w_N; omega)
  rw [e] at this
  exact this
end M41
