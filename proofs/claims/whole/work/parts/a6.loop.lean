/-! ===== the STALE cells are run by both, the lowest that can be first ===== -/
/-- what running leaves: the rows of the other side, the exception told, the web -/
def RN (n nw : Nat) (h m h' m' : Hp) : Prop := (∀ z, 1076 ≤ z → h' z = h z) ∧ (∀ q, (q < 1076 ∨ q = 1133) → m' q = m q) ∧ m' 1076 79 = m 1076 79 ∧ ndh h' n nw = ndh h n nw ∧ twh h' n nw = twh h n nw
section SA6
variable {h h' h1 m m' m1 : Hp} {n nw k B c : Nat} {T : List Int32} {lang us x : Int32} {s : Nat → Int32}
theorem RN_refl : RN n nw h m h m := ⟨fun _ _ => rfl, fun _ _ => rfl, rfl, rfl, rfl⟩
theorem RN_trans (a : RN n nw h m h1 m1) (b : RN n nw h1 m1 h' m') : RN n nw h m h' m' :=
  ⟨fun z hz => (b.1 z hz).trans (a.1 z hz), fun q hq => (b.2.1 q hq).trans (a.2.1 q hq), b.2.2.1.trans a.2.2.1, b.2.2.2.1.trans a.2.2.2.1, b.2.2.2.2.trans a.2.2.2.2⟩
theorem RN_ndc (R : RN n nw h m h' m') : ndc h' n nw = ndc h n nw := by
  funext c j
  unfold ndc
  rw [R.2.2.2.1]
theorem RN_55 (e5 : h' 5 = h 5) (ec : ∀ j, h' (64 * j + 55) = h (64 * j + 55)) : ndh h' n nw = ndh h n nw ∧ twh h' n nw = twh h n nw := by
  have d : dfh h' n nw = dfh h n nw := by
    funext x j; unfold dfh; rw [e5, ec j]
  have e : chh h' n = chh h n := by
    funext x j; unfold chh; rw [ec j]
  refine ⟨?_, ?_⟩
  · funext c j; unfold ndh; rw [ec c, d, e]
  · funext x j; unfold twh; rw [d]
theorem RN_st (hf : w_fr stP h h') : RN n nw h m h' m := by
  obtain ⟨a, b⟩ := RN_55 (n := n) (nw := nw) (h := h) (h' := h') (hf 5 (by unfold stP; omega)) (fun j => hf _ (by unfold stP; omega))
  exact ⟨fun z hz => hf z (by unfold stP; omega), fun _ _ => rfl, rfl, a, b⟩
theorem RN_lk (hf : w_fr lkP m m') : RN n nw h m h m' := ⟨fun _ _ => rfl, fun q hq => hf q (by unfold lkP; omega), by rw [hf 1076 (by unfold lkP; omega)], rfl, rfl⟩
theorem RN_ran (hc : c < 16) (R : ran h m h' m' c k nw T lang) : RN n nw h m h' m' := by
  obtain ⟨a, b⟩ := RN_55 (n := n) (nw := nw) (h := h) (h' := h') (R.1.1 5 (hrP_low (by decide) (by decide))) (fun j => by
    by_cases e : j = c
    · subst e; exact R.1.1 _ (hrP_own (by omega))
    · exact R.1.1 _ (hrP_far e (by omega) (by omega)))
  refine ⟨fun z hz => R.1.1 z (by unfold hrP xP; omega), fun q hq => R.1.2.1 q (by unfold mrP evgP evfP; omega), ?_, a, b⟩
  exact R.1.2.2.2.2.2.2 79 (by decide) (by decide) (by decide) (by decide) (by decide) (by decide) (by decide) (by decide) (by decide) (by decide) (by decide) (by decide) (by decide) (by decide) (by decide) (by decide) (by decide)
theorem LK_h (L : LK h m n nw) (e : ndh h' n nw = ndh h n nw) : LK h' m n nw := by
  have e2 : ndc h' n nw = ndc h n nw := by funext c j; unfold ndc; rw [e]
  unfold LK
  rw [e, e2]; exact L
/-- the class judges -/
theorem cp_judge (H : CP h m n nw k B) : ∃ h', p_132 h = some h' ∧ w_fr stP h h' ∧ isSt n (ndc h n nw) (twh h n nw 26) (own h n nw) (h' 3) ∧ CP h' m n nw k B := by
  obtain ⟨h', a, b, d⟩ := s_132 H.2.1
  exact ⟨h', a, b, d, CP_st H b⟩
/-- the model looks -/
theorem cp_looks (H : CP h m n nw k B) : ∃ m', p_188 m = some m' ∧ w_fr lkP m m' ∧ LK h m' n nw ∧ isSt n (ndc h n nw) (twh h n nw 26) (own h n nw) (m' 1122) ∧ CP h m' n nw k B := by
  obtain ⟨m', a, b, d, e⟩ := m_188 H.2.2.1 (ow := own h n nw) (fun c _ => own_nn) (m_187 H.2.2.1 (fun c hc => (H.2.1.2.2.2.2.2.2.2.1 c hc).1) H.2.2.2.1)
  exact ⟨m', a, b, d, e, CP_lk H b⟩
theorem own_st (hf : w_fr stP h h') : own h' n nw = own h n nw := funext fun _ => own_fr hf
/-- the states of another cell that does not need the one that ran -/
theorem own_o (hc : c < 16) (R : ran h m h' m' c k nw T lang) {j : Nat} (hj : j ≠ c) (hnd : ¬ ndc h n nw j c = true) : own h' n nw j = own h n nw j := by
  have hf : ∀ i, i ≠ c → h' (64 * i + 52) = h (64 * i + 52) := fun i hi => R.1.1 _ (hrP_far hi (by omega) (by omega))
  have e79 : h' (64 * j + 52 + 27) = h (64 * j + 52 + 27) := R.1.1 _ (hrP_far hj (by omega) (by omega))
  have e14 : h' 14 = h 14 := R.1.1 _ (hrP_low (by decide) (by decide))
  have e8 : h' 8 = h 8 := R.1.1 _ (hrP_low (by decide) (by decide))
  have end_ : ndc h' n nw = ndc h n nw := RN_ndc (RN_ran hc R)
  have e1 : anyb (fun k => ndc h' n nw j k && decide (h' (64 * j + 52) 14 < h' (64 * k + 52) 14)) n = anyb (fun k => ndc h n nw j k && decide (h (64 * j + 52) 14 < h (64 * k + 52) 14)) n := by
    refine anyb_congr n (fun i _ => ?_)
    rw [end_, hf j hj]
    by_cases e : i = c
    · subst e
      cases hb : ndc h n nw j i with
      | true => exact absurd hb hnd
      | false => rw [Bool.false_and, Bool.false_and]
    · rw [hf i e]
  have e2 : ∀ y, asT h' nw (64 * j + 52) y = asT h nw (64 * j + 52) y := fun y => by
    unfold asT
    rw [hf j hj, e79]
    have : ∀ w, shv h' nw w = shv h nw w := fun w => by unfold shv; rw [e8]
    simp only [this]
  unfold own
  rw [e1, e2, hf j hj, e14]
/-- the one that ran is not STALE by itself -/
theorem own_c (H : CP h m n nw k B) (hc : c < n) (R : ran h m h' m' c k nw T lang) : own h' n nw c = 0 ∨ own h' n nw c = 2 := by
  obtain ⟨⟨b1, b2⟩, J, W, RR, S, Q, G, Y, P, CC, V1, V2⟩ := H
  have h16 := J.1
  have c16 : c < 16 := by omega
  have hf : ∀ i, i ≠ c → h' (64 * i + 52) = h (64 * i + 52) := fun i hi => R.1.1 _ (hrP_far hi (by omega) (by omega))
  have e14 : h' 14 = h 14 := R.1.1 _ (hrP_low (by decide) (by decide))
  have e8 : h' 8 = h 8 := R.1.1 _ (hrP_low (by decide) (by decide))
  have end_ : ndc h' n nw = ndc h n nw := RN_ndc (RN_ran c16 R)
  obtain ⟨d1, d2, d3, d4, d5, d6, d7, d8⟩ := R.2.2.1
  have e1 : ¬ anyb (fun k => ndc h' n nw c k && decide (h' (64 * c + 52) 14 < h' (64 * k + 52) 14)) n = true := by
    rw [anyb_iff]
    rintro ⟨i, hi, hb⟩
    rw [Bool.and_eq_true, decide_eq_true_eq, end_] at hb
    have hne : i ≠ c := by
      intro e
      subst e
      have := ndh_self (h := h) (n := n) (nw := nw) (c := i)
      unfold ndc at hb
      rw [this] at hb
      exact absurd hb.1 (by simp)
    obtain ⟨t, t1, t2⟩ := (P i (by omega)).2.2.2.2.1
    have hr := (RR.2.1 i hi).2.1
    rw [hf i hne, hr, t2, d2, u_lt (by omega) (by omega)] at hb
    omega
  have e2 : asT h' nw (64 * c + 52) (h' 14 c) = true := by
    unfold asT
    rw [d1, d3, e14]
    have hw : anyb (fun w => bt (h 14 c) (16 + w) && !decide (shv h' nw w = h' (64 * c + 52 + 27) w)) 4 = false := by
      cases ha : anyb (fun w => bt (h 14 c) (16 + w) && !decide (shv h' nw w = h' (64 * c + 52 + 27) w)) 4 with
      | false => rfl
      | true =>
        obtain ⟨w, hw, hb⟩ := (anyb_iff 4).mp ha
        rw [Bool.and_eq_true] at hb
        have hnw : w < nw := by
          rw [(J.2.2.2.2.2.2.2.1 c hc).1 (16 + w) (by omega)] at hb
          have hb1 := hb.1
          unfold ndh at hb1
          obtain ⟨y, hy, hb2⟩ := (anyb_iff 26).mp hb1
          rw [Bool.and_eq_true] at hb2
          have hg := hb2.2
          unfold gvb at hg
          split at hg
          · rename_i l hl
            have := (lst_lt 16 hl).1
            have := of_decide_eq_true hg
            omega
          · rw [Bool.and_eq_true] at hg
            have hd := hg.1
            unfold dfh at hd
            simp only [Bool.or_eq_true, Bool.and_eq_true, decide_eq_true_eq] at hd
            rcases hd with hd | hd
            · omega
            · omega
        have : shv h' nw w = h' (64 * c + 52 + 27) w := by
          unfold shv
          rw [if_pos hnw, e8, show 64 * c + 52 + 27 = 64 * c + 79 by omega, (d7 w hnw).1]
        rw [decide_eq_true this] at hb
        exact absurd hb.2 (by decide)
    rw [hw]
    simp
  unfold own
  rw [if_neg e1, if_pos e2]
  split
  · exact Or.inl rfl
  · exact Or.inr rfl
theorem own_3 : own h n nw c = 0 ∨ own h n nw c = 1 ∨ 2 ≤ own h n nw c := by
  unfold own
  split
  · exact Or.inr (Or.inl rfl)
  split
  · split
    · exact Or.inl rfl
    · exact Or.inr (Or.inr (by decide))
  · exact Or.inr (Or.inl rfl)
theorem st_3 {nd : Nat → Nat → Bool} {tw : Nat → Bool} {ow : Nat → Int32} (ho : ∀ c, ow c = 0 ∨ ow c = 1 ∨ 2 ≤ ow c) (hs : isSt n nd tw ow s) : ∀ j, j < n → s j = 0 ∨ s j = 1 ∨ 2 ≤ s j := by
  intro j hj
  rw [hs j hj]
  unfold stp
  split
  · exact Or.inr (Or.inr (by decide))
  split
  · exact Or.inr (Or.inr (by decide))
  split
  · exact Or.inr (Or.inr (by decide))
  split
  · exact Or.inr (Or.inl rfl)
  · exact ho j
/-- a cell that is run next: what is known of it -/
theorem nxr_at {nd : Nat → Nat → Bool} {a : Nat → Bool} (hf : fst1 (nxr n nd s a) n = some c) : c < n ∧ a c = true ∧ s c = 1 ∧ ∀ j, j < n → nd c j = true → s j = 0 := by
  obtain ⟨h1, h2, -⟩ := fst1_lt n hf
  unfold nxr rdy at h2
  simp only [Bool.and_eq_true, decide_eq_true_eq, Bool.not_eq_true'] at h2
  refine ⟨h1, h2.1, h2.2.1, fun j hj hn => ?_⟩
  by_cases e : s j = 0
  · exact e
  · have : anyb (fun k => nd c k && !decide (s k = 0)) n = true := (anyb_iff n).mpr ⟨j, hj, by rw [hn, decide_eq_false e]; rfl⟩
    rw [this] at h2
    exact absurd h2.2.2 (by decide)
/-- a STALE cell ran: the states after it -/
theorem st_after (H : CP h m n nw k B) (hs : isSt n (ndc h n nw) (twh h n nw 26) (own h n nw) s) (hc : c < n) (h1c : s c = 1) (hrd : ∀ j, j < n → ndc h n nw c j = true → s j = 0) (R : ran h m h' m' c k nw T lang) {s' : Nat → Int32} (hs' : isSt n (ndc h n nw) (twh h n nw 26) (own h' n nw) s') : (∀ j, j < n → s j ≠ 1 → s' j = s j) ∧ s' c ≠ 1 := by
  have c16 : c < 16 := by have := H.2.1.1; omega
  have k1 := st_run hs hs' (st_3 (fun c => own_3) hs) hc h1c (fun j hj hne hnd => own_o c16 R hne hnd)
  refine ⟨k1, ?_⟩
  have ht : ¬ twh h n nw 26 c = true := fun ht => by rw [st_T hs hc ht] at h1c; exact absurd h1c (by decide)
  have hr : ¬ cl (ndc h n nw) n c c = true := fun hr => by rw [st_R hs hc ht hr] at h1c; exact absurd h1c (by decide)
  have hz : ∀ i, i < n → ndc h n nw c i = true → s' i = 0 := fun i a b => by
    rw [k1 i a (by rw [hrd i a b]; decide), hrd i a b]
  rw [hs' c hc]
  unfold stp
  rw [if_neg ht, if_neg hr, if_neg (fun ⟨i, a, b, d⟩ => by rw [hz i a b] at d; exact absurd d (by decide)), if_neg (fun ⟨i, a, b, d⟩ => by rw [hz i a b] at d; exact absurd d (by decide))]
  rcases own_c H hc R with h | h <;> rw [h] <;> decide
theorem nd_lt (J : JOK h n nw) (hc : c < n) : ∀ j, j < n → bt (h 14 c) j = ndc h n nw c j := fun j hj => by
  have := J.1
  rw [(J.2.2.2.2.2.2.2.1 c hc).1 j (by omega)]
  unfold ndc
  rw [decide_eq_true (show j < 16 by omega), Bool.and_true]
theorem lk_lt (J : JOK h n nw) (L : LK h m n nw) (hc : c < n) : ∀ j, j < n → bt (m 1120 c) j = ndc h n nw c j := fun j hj => by
  rw [(lk_eq J L hc).1]; exact nd_lt J hc j hj
theorem lp_l {σ ε : Type} {b : σ → Option (σ ⊕ ε)} {N : Nat} {t t' : σ} (e : b t = some (.inl t')) : w_lp b (N + 1) t = w_lp b N t' := by
  simp only [w_lp, e]
theorem lp_r {σ ε : Type} {b : σ → Option (σ ⊕ ε)} {N : Nat} {t : σ} {z : ε} (e : b t = some (.inr z)) : w_lp b (N + 1) t = some z := by
  simp only [w_lp, e]
theorem loop_both : ∀ (d i k : Nat) (h m : Hp) (N M : Nat), i + d = 16 → CP h m n nw k B → LK h m n nw → isSt n (ndc h n nw) (twh h n nw 26) (own h n nw) (m 1122) → cnt (fun c => decide (m 1122 c = 1)) n ≤ d → k + d ≤ B → d + 1 ≤ N → d + 1 ≤ M → ∃ h' m' k', w_lp (fun (s : Int32 × Hp) => l_137_2 x s.1 s.2) N (Int32.ofNat i, h) = some h' ∧ w_lp (fun (s : Int32 × Hp) => l_191_6 x s.1 s.2) M (oi (fst1 (nxr n (ndc h n nw) (m 1122) (bt x)) n), m) = some m' ∧ CP h' m' n nw k' B ∧ k' ≤ k + d ∧ LK h' m' n nw ∧ isSt n (ndc h' n nw) (twh h' n nw 26) (own h' n nw) (m' 1122) ∧ fst1 (nxr n (ndc h' n nw) (m' 1122) (bt x)) n = none ∧ RN n nw h m h' m' := by
  intro d
  induction d with
  | zero =>
    intro i k h m N M hi H L hs hst hk hN hM
    obtain ⟨N, rfl⟩ : ∃ a, N = a + 1 := ⟨N - 1, by omega⟩
    obtain ⟨M, rfl⟩ : ∃ a, M = a + 1 := ⟨M - 1, by omega⟩
    have e16 : i = 16 := by omega
    subst e16
    have hno : fst1 (nxr n (ndc h n nw) (m 1122) (bt x)) n = none := by
      cases hf : fst1 (nxr n (ndc h n nw) (m 1122) (bt x)) n with
      | none => rfl
      | some c =>
        obtain ⟨a, -, b, -⟩ := nxr_at hf
        have := cnt_0 (f := fun c => decide (m 1122 c = 1)) n (by omega) c a
        exact absurd b (of_decide_eq_false this)
    refine ⟨h, m, k, ?_, ?_, H, Nat.le_refl _, L, hs, hno, RN_refl⟩
    · simp only [w_lp, l_137_2]
      rw [if_neg (by decide)]
    · rw [hno]
      simp only [w_lp, l_191_6]
      rw [if_pos (show oi none = -1 from rfl)]
  | succ d ih =>
    intro i k h m N M hi H L hs hst hk hN hM
    obtain ⟨N, rfl⟩ : ∃ a, N = a + 1 := ⟨N - 1, by omega⟩
    obtain ⟨M, rfl⟩ : ∃ a, M = a + 1 := ⟨M - 1, by omega⟩
    have h16 := H.2.1.1
    obtain ⟨hj, p1, f1, s1, Hj⟩ := cp_judge H
    have Rj : RN n nw h m hj m := RN_st f1
    have endc := RN_ndc Rj
    have etw := Rj.2.2.2.2
    have eow := own_st (n := n) (nw := nw) f1
    have same : ∀ j, j < n → hj 3 j = m 1122 j := fun j hj => st_unique s1 hs j hj
    have p2 := s_135 (g := hj) (x := x) (nd := ndc h n nw) (s := m 1122) h16 Hj.2.1.2.1 (fun c hc j hj2 => by rw [← endc]; exact nd_lt Hj.2.1 hc j hj2) same
    have hlt : Int32.ofNat i < 16 := (u_ltL (a := i) (n := 16) (by omega) (by decide)).mpr (by omega)
    cases hf : fst1 (nxr n (ndc h n nw) (m 1122) (bt x)) n with
    | none =>
      rw [hf] at p2
      refine ⟨hj, m, k, ?_, ?_, Hj, by omega, LK_h L Rj.2.2.2.1, by rw [endc, etw, eow]; exact hs, by rw [endc]; exact hf, Rj⟩
      · simp only [w_lp, l_137_2]
        rw [if_pos hlt, p1]
        simp only [Option.bind_some]
        rw [p2]
        simp only [Option.bind_some]
        rw [if_pos (show oi none = -1 from rfl)]
      · simp only [w_lp, l_191_6]
        rw [if_pos (show oi none = -1 from rfl)]
    | some c =>
      rw [hf] at p2
      obtain ⟨c1, c2, c3, c4⟩ := nxr_at hf
      have hne : ¬ Int32.ofNat c = -1 := by
        intro e
        have := congrArg Int32.toInt e
        rw [u_toInt (by omega)] at this
        have h1 : (-1 : Int32).toInt = -1 := by decide
        omega
      have ht : ¬ twh h n nw 26 c = true := fun ht => by rw [st_T hs c1 ht] at c3; exact absurd c3 (by decide)
      have hsj : isSt n (ndc hj n nw) (twh hj n nw 26) (own hj n nw) (m 1122) := by rw [endc, etw, eow]; exact hs
      have Lj := LK_h L Rj.2.2.2.1
      obtain ⟨r, h2, m2, q1, q2, H2, T, lang, R⟩ := does0 Hj Lj hsj c1 (by rw [etw]; exact ht) (by rw [endc]; exact c4) (by omega)
      have R2 := RN_ran (n := n) (by omega) R
      obtain ⟨m3, q3, f3, L3, s3, H3⟩ := cp_looks H2
      have R3 : RN n nw h2 m2 h2 m3 := RN_lk f3
      have end2 := RN_ndc R2
      have hs3 : isSt n (ndc hj n nw) (twh hj n nw 26) (own h2 n nw) (m3 1122) := by rw [← end2, ← R2.2.2.2.2]; exact s3
      obtain ⟨k1, k2⟩ := st_after Hj hsj c1 c3 (by rw [endc]; exact c4) R hs3
      have hcnt : cnt (fun c => decide (m3 1122 c = 1)) n < cnt (fun c => decide (m 1122 c = 1)) n := by
        refine cnt_lt n (fun j hj hb => ?_) ⟨c, c1, decide_eq_false k2, decide_eq_true c3⟩
        refine decide_eq_true ?_
        by_cases e : m 1122 j = 1
        · exact e
        · have := of_decide_eq_true hb
          rw [k1 j hj e] at this
          exact absurd this e
      have p190 := m_190 (g := m3) (x := x) (nd := ndc h2 n nw) (s := m3 1122) h16 H3.2.2.1.2.2.1 (fun c hc j hj2 => lk_lt H3.2.1 L3 hc j hj2) (fun _ _ => rfl)
      obtain ⟨h', m', k', z1, z2, z3, z4, z5, z6, z7, z8⟩ := ih (i + 1) (k + 1) h2 m3 N M (by omega) H3 L3 s3 (by omega) (by omega) (by omega) (by omega)
      refine ⟨h', m', k', ?_, ?_, z3, by omega, z5, z6, z7, RN_trans Rj (RN_trans R2 (RN_trans R3 z8))⟩
      · have st1 : l_137_2 x (Int32.ofNat i) h = some (.inl (Int32.ofNat (i + 1), h2)) := by
          unfold l_137_2
          rw [if_pos hlt, p1]
          simp only [Option.bind_some]
          rw [p2]
          simp only [Option.bind_some]
          show (if Int32.ofNat c = -1 then _ else (p_139 hj (Int32.ofNat c) 0).bind _) = _
          rw [if_neg hne, q1]
          simp only [Option.bind_some]
          rw [u_S]
        exact (lp_l (t := (Int32.ofNat i, h)) st1).trans z1
      · have st2 : l_191_6 x (Int32.ofNat c) m = some (.inl (oi (fst1 (nxr n (ndc h2 n nw) (m3 1122) (bt x)) n), m3)) := by
          unfold l_191_6
          rw [if_neg hne, q2]
          simp only [Option.bind_some]
          rw [q3]
          simp only [Option.bind_some]
          rw [p190]
          rfl
        exact (lp_l (t := (Int32.ofNat c, m)) st2).trans z2
theorem cnt_16 (f : Nat → Bool) (h16 : n ≤ 16) : cnt f n ≤ 16 := Nat.le_trans (cnt_le f n) h16
/-- all STALE cells of a set are run -/
theorem all_both (x : Int32) (H : CP h m n nw k B) (hB : k + 16 ≤ B) : ∃ h' m' k', p_137 h x = some h' ∧ p_191 m x = some m' ∧ CP h' m' n nw k' B ∧ k' ≤ k + 16 ∧ LK h' m' n nw ∧ isSt n (ndc h' n nw) (twh h' n nw 26) (own h' n nw) (m' 1122) ∧ fst1 (nxr n (ndc h' n nw) (m' 1122) (bt x)) n = none ∧ RN n nw h m h' m' := by
  obtain ⟨m1, q1, f1, L1, s1, H1⟩ := cp_looks H
  have p190 := m_190 (g := m1) (x := x) (nd := ndc h n nw) (s := m1 1122) H.2.1.1 H1.2.2.1.2.2.1 (fun c hc j hj2 => lk_lt H1.2.1 L1 hc j hj2) (fun _ _ => rfl)
  obtain ⟨h', m', k', z1, z2, z3, z4, z5, z6, z7, z8⟩ := loop_both (x := x) 16 0 k h m1 w_N w_N (by omega) H1 L1 s1 (cnt_16 _ H.2.1.1) hB (by unfold w_N; omega) (by unfold w_N; omega)
  refine ⟨h', m', k', z1, ?_, z3, z4, z5, z6, z7, RN_trans (RN_lk f1) z8⟩
  unfold p_191
  rw [q1]
  simp only [Option.bind_some]
  rw [p190]
  exact z2
/-- what is run at once -/
theorem at_once (H : CP h m n nw k B) (hB : k + 16 ≤ B) : ∃ h' m' k', p_130 h = some h' ∧ p_192 m = some m' ∧ CP h' m' n nw k' B ∧ k' ≤ k + 16 ∧ RN n nw h m h' m' := by
  have em : h 0 11 = m 1076 22 := H.2.2.2.2.1.2.2.2.2.2.2.2
  unfold p_130 p_192
  rw [← em]
  by_cases e : h 0 11 = 2
  · rw [if_pos e, if_pos e]
    obtain ⟨h', m', k', z1, z2, z3, z4, -, -, -, z8⟩ := all_both 65535 H hB
    exact ⟨h', m', k', by rw [z1]; rfl, by rw [z2]; rfl, z3, z4, z8⟩
  · rw [if_neg e, if_neg e]
    exact ⟨h, m, k, rfl, rfl, H, by omega, RN_refl⟩
end SA6
