/-! ===== restore ===== -/
def nx3 (n : Nat) (nd : Nat → Nat → Bool) (s : Nat → Int32) (a : Nat → Bool) (c : Nat) : Bool := a c && (decide (s c < 3) && rdy n nd s c)
section SC2
variable {h h' h1 g m m' m1 p : Hp} {n nw k k' B B' b c i l : Nat} {T : List Int32} {lang us x y z : Int32} {s : Nat → Int32}
theorem m_231i {nd : Nat → Nat → Bool} (h16 : n ≤ 16) (hn : g 1076 2 = Int32.ofNat n) (hnd : ∀ c, c < n → ∀ j, j < n → bt (g 1120 c) j = nd c j) (hs : ∀ j, j < n → g 1122 j = s j) : w_lp (fun (q : Int32 × Int32) => l_231_30 g x q.1 q.2) w_N ((-1), ((g 1076 2) - 1)) = some (oi (fst1 (nx3 n nd s (bt x)) n)) := by
  have hstart : g 1076 2 - 1 = Int32.ofNat n + (-1) := by rw [hn]; grind
  rw [hstart]
  have key : ∀ k N, k ≤ n → k < N → w_lp (fun (q : Int32 × Int32) => l_231_30 g x q.1 q.2) N (oi (fst1 (fun i => decide (k ≤ i) && nx3 n nd s (bt x) i) n), Int32.ofNat k + (-1)) = some (oi (fst1 (nx3 n nd s (bt x)) n)) := by
    intro k
    induction k with
    | zero =>
      intro N _ hN
      obtain ⟨N, rfl⟩ : ∃ q, N = q + 1 := ⟨N - 1, by omega⟩
      have e : fst1 (fun i => decide (0 ≤ i) && nx3 n nd s (bt x) i) n = fst1 (nx3 n nd s (bt x)) n := fst1_congr n (fun i _ => by simp)
      rw [e]
      exact u_once (by omega) (by simp only [l_231_30]; rw [if_pos (by decide)])
    | succ k ih =>
      intro N hk hN
      obtain ⟨N, rfl⟩ : ∃ q, N = q + 1 := ⟨N - 1, by omega⟩
      rw [u_pred]
      have ihk := ih N (by omega) (by omega)
      rw [fst1_step (by omega)] at ihk
      have hstep : l_231_30 g x (oi (fst1 (fun i => decide (k + 1 ≤ i) && nx3 n nd s (bt x) i) n)) (Int32.ofNat k) = some (.inl (oi (if nx3 n nd s (bt x) k = true then some k else fst1 (fun i => decide (k + 1 ≤ i) && nx3 n nd s (bt x) i) n), Int32.ofNat k + (-1))) := by
        have hlt : ¬ Int32.ofNat k < 0 := u_lt0 (by omega)
        have h9 := m_189 (x := g 1120 k) (s := s) (f := nd k) h16 hn (hnd k (by omega)) hs
        simp (disch := omega) only [l_231_30, hlt, if_false, bt_shr, u_b11, u_ix, u_cl, w_gd, hs, h9, Option.bind_some]
        have hx : nx3 n nd s (bt x) k = (bt x k && (decide (s k < 3) && !anyb (fun j => nd k j && !decide (s j = 0)) n)) := rfl
        rw [hx]
        by_cases s1 : s k < 3 <;> cases bt x k <;> cases anyb (fun j => nd k j && !decide (s j = 0)) n <;> simp [ofB, s1, oi]
      simp only [w_lp, hstep]
      exact ihk
  have e : fst1 (fun i => decide (n ≤ i) && nx3 n nd s (bt x) i) n = none := by
    cases hh : fst1 (fun i => decide (n ≤ i) && nx3 n nd s (bt x) i) n with
    | none => rfl
    | some q =>
      obtain ⟨a, b, -⟩ := fst1_lt n hh
      simp at b; omega
  have := key n w_N (Nat.le_refl n) (by unfold w_N; omega)
  rw [e] at this
  exact this
/-- a cell that was not run is not FRESH and has not FAILED -/
theorem st_norun (hs : isSt n (ndc h n nw) (twh h n nw 26) (own h n nw) s) (hc : c < n) (h0 : h (64 * c + 52) 15 = 0) : s c < 3 ↔ s c = 1 := by
  have ow : own h n nw c = 1 := by
    unfold own
    split
    · rfl
    · have : asT h nw (64 * c + 52) (h 14 c) = false := by
        unfold asT
        rw [h0]; rfl
      rw [this]; rfl
  have e := hs c hc
  unfold stp at e
  rw [ow] at e
  refine ⟨fun hlt => ?_, fun h1 => by rw [h1]; decide⟩
  split at e
  · rw [e] at hlt; exact absurd hlt (by decide)
  split at e
  · rw [e] at hlt; exact absurd hlt (by decide)
  split at e
  · rw [e] at hlt; exact absurd hlt (by decide)
  split at e
  · exact e
  · exact e
def sel {α : Type} : α ⊕ α → α
  | .inl a => a
  | .inr a => a
theorem rs_loop : ∀ (d i k : Nat) (x y : Int32) (h m : Hp) (N M : Nat), i + d = 16 → CP h m n nw k B → (∀ c, c < n → bt x c = true → h (64 * c + 52) 15 = 0 ∧ m 1100 c = 0) → cnt (bt x) n ≤ d → k + d ≤ B → d + 1 ≤ N → d + 2 ≤ M → ∃ r y' m' k', w_lp (fun (s : Int32 × Int32 × Hp) => l_110_15 s.1 s.2.1 s.2.2) N (x, Int32.ofNat i, h) = some r ∧ w_lp (fun (s : Int32 × Int32 × Int32 × Hp) => l_231_19 s.1 s.2.1 s.2.2.1 s.2.2.2) M (y, x, 1, m) = some (y', m') ∧ CP (sel r) m' n nw k' B ∧ RN n nw h m (sel r) m' ∧ y' + m 1076 20 = y + m' 1076 20 := by
  intro d
  induction d with
  | zero =>
    intro i k x y h m N M hi H hw hc0 hk hN hM
    obtain ⟨N, rfl⟩ : ∃ a, N = a + 1 := ⟨N - 1, by omega⟩
    obtain ⟨M, rfl⟩ : ∃ a, M = a + 2 := ⟨M - 2, by omega⟩
    have e16 : i = 16 := by omega
    subst e16
    have h16 := H.2.1.1
    obtain ⟨m1, q1, g1, L1, t1, H1⟩ := cp_looks H
    have hno : fst1 (nx3 n (ndc h n nw) (m1 1122) (bt x)) n = none := by
      cases hf : fst1 (nx3 n (ndc h n nw) (m1 1122) (bt x)) n with
      | none => rfl
      | some c =>
        obtain ⟨a, b, -⟩ := fst1_lt n hf
        unfold nx3 at b
        rw [Bool.and_eq_true] at b
        have := cnt_0 (f := bt x) n (by omega) c a
        rw [b.1] at this; cases this
    have li := m_231i (g := m1) (x := x) (s := m1 1122) h16 H1.2.2.1.2.2.1 (fun c hc j hj => lk_lt H1.2.1 L1 hc j hj) (fun _ _ => rfl)
    rw [hno] at li
    refine ⟨.inr h, y, m1, k, lp_r (t := (x, Int32.ofNat 16, h)) ?_, ?_, H1, RN_lk g1, by rw [g1 1076 (by unfold lkP; omega)]⟩
    · show l_110_15 x (Int32.ofNat 16) h = _
      unfold l_110_15
      rw [if_neg (by decide)]
    · refine (lp_l (t := (y, x, (1 : Int32), m)) (t' := (y, x, (0 : Int32), m1)) ?_).trans (lp_r (t := (y, x, (0 : Int32), m1)) ?_)
      · show l_231_19 y x 1 m = _
        unfold l_231_19
        rw [if_neg no10, q1]
        simp only [Option.bind_some]
        rw [li]
        rfl
      · show l_231_19 y x 0 m1 = _
        unfold l_231_19
        rw [if_pos rfl]
  | succ d ih =>
    intro i k x y h m N M hi H hw hc0 hk hN hM
    obtain ⟨N, rfl⟩ : ∃ a, N = a + 1 := ⟨N - 1, by omega⟩
    obtain ⟨M, rfl⟩ : ∃ a, M = a + 1 := ⟨M - 1, by omega⟩
    have h16 := H.2.1.1
    obtain ⟨m1, q1, g1, L1, t1, H1⟩ := cp_looks H
    obtain ⟨h1, p1, f1, s1, H1'⟩ := cp_judge H1
    have RJ : RN n nw h m1 h1 m1 := RN_st f1
    have RL : RN n nw h m h m1 := RN_lk g1
    have endc := RN_ndc RJ
    have etw := RJ.2.2.2.2
    have eow := own_st (n := n) (nw := nw) f1
    have same : ∀ j, j < n → h1 3 j = m1 1122 j := fun j hj => st_unique s1 t1 j hj
    have li := m_231i (g := m1) (x := x) (s := m1 1122) h16 H1.2.2.1.2.2.1 (fun c hc j hj => lk_lt H1.2.1 L1 hc j hj) (fun _ _ => rfl)
    have eqn : fst1 (nx3 n (ndc h n nw) (m1 1122) (bt x)) n = fst1 (nxr n (ndc h n nw) (m1 1122) (bt x)) n := fst1_congr n (fun c hc => by
      unfold nx3 nxr
      cases hb : bt x c with
      | false => rfl
      | true =>
        have := st_norun t1 hc (hw c hc hb).1
        simp only [this])
    rw [eqn] at li
    have p135 := s_135 (g := h1) (x := x) (nd := ndc h n nw) (s := m1 1122) h16 H1'.2.1.2.1 (fun c hc j hj2 => by rw [← endc]; exact nd_lt H1'.2.1 hc j hj2) same
    have hlt : Int32.ofNat i < 16 := (u_ltL (a := i) (n := 16) (by omega) (by decide)).mpr (by omega)
    have em20 : m1 1076 = m 1076 := g1 1076 (by unfold lkP; omega)
    cases hf : fst1 (nxr n (ndc h n nw) (m1 1122) (bt x)) n with
    | none =>
      rw [hf] at li p135
      obtain ⟨M, rfl⟩ : ∃ a, M = a + 1 := ⟨M - 1, by omega⟩
      refine ⟨.inl h1, y, m1, k, lp_r (t := (x, Int32.ofNat i, h)) ?_, ?_, H1', RN_trans RL RJ, by rw [em20]⟩
      · show l_110_15 x (Int32.ofNat i) h = _
        unfold l_110_15
        rw [if_pos hlt, p1]
        simp only [Option.bind_some]
        rw [p135]
        simp only [Option.bind_some]
        rw [if_pos (show oi none = -1 from rfl)]
      · refine (lp_l (t := (y, x, (1 : Int32), m)) (t' := (y, x, (0 : Int32), m1)) ?_).trans (lp_r (t := (y, x, (0 : Int32), m1)) ?_)
        · show l_231_19 y x 1 m = _
          unfold l_231_19
          rw [if_neg no10, q1]
          simp only [Option.bind_some]
          rw [li]
          rfl
        · show l_231_19 y x 0 m1 = _
          unfold l_231_19
          rw [if_pos rfl]
    | some c =>
      rw [hf] at li p135
      obtain ⟨c1, c2, c3, c4⟩ := nxr_at hf
      have hne : ¬ Int32.ofNat c = -1 := m1_ne (by omega)
      have ht : ¬ twh h n nw 26 c = true := fun ht => by rw [st_T t1 c1 ht] at c3; exact absurd c3 (by decide)
      have hsj : isSt n (ndc h1 n nw) (twh h1 n nw 26) (own h1 n nw) (m1 1122) := by rw [endc, etw, eow]; exact t1
      have e1100 : m1 1100 = m 1100 := g1 1100 (by unfold lkP; omega)
      obtain ⟨rc, r, h2, m2, z1, z2, z3, H2, T, lang, R⟩ := does1 H1' (LK_h L1 RJ.2.2.2.1) hsj c1 (by rw [etw]; exact ht) (by rw [endc]; exact c4) (by omega) (by rw [e1100]; exact (hw c c1 c2).2)
      have R2 := RN_ran (n := n) (by omega) R
      generalize hx' : (x &&& ((1 <<< (Int32.ofNat c &&& 31)) ^^^ (-1)) : Int32) = x'
      have bx' : ∀ j, j < 32 → bt x' j = (bt x j && !decide (j = c)) := fun j hj => by rw [← hx', bt_and, bt_not hj, bt_one (by omega)]
      obtain ⟨r', y', m', k', w1, w2, w3, w4, w5⟩ := ih (i + 1) (k + 1) x' (y + r) h2 m2 N M (by omega) H2 (fun j hj hb => by
        rw [bx' j (by omega), Bool.and_eq_true, Bool.not_eq_true', decide_eq_false_iff_not] at hb
        have sj := ran_sch R hb.2 (64 * j + 52) (by omega) (by omega) (by omega)
        have smj := (ran_scm R hb.2).1 1100 (by omega)
        rw [sj, f1 _ (by unfold stP; omega), smj, e1100]
        exact hw j hj hb.1) (by
        have : cnt (bt x') n < cnt (bt x) n := cnt_lt n (fun j hj hb => by
          rw [bx' j (by omega), Bool.and_eq_true] at hb; exact hb.1) ⟨c, c1, by rw [bx' c (by omega), decide_eq_true rfl]; simp, c2⟩
        omega) (by omega) (by omega) (by omega)
      refine ⟨r', y', m', k', (lp_l (t := (x, Int32.ofNat i, h)) (t' := (x', Int32.ofNat (i + 1), h2)) ?_).trans w1, (lp_l (t := (y, x, (1 : Int32), m)) (t' := (y + r, x', (1 : Int32), m2)) ?_).trans w2, w3, RN_trans RL (RN_trans RJ (RN_trans R2 w4)), ?_⟩
      · show l_110_15 x (Int32.ofNat i) h = _
        unfold l_110_15
        rw [if_pos hlt, p1]
        simp only [Option.bind_some]
        rw [p135]
        simp only [Option.bind_some]
        show (if Int32.ofNat c = -1 then _ else (p_139 h1 (Int32.ofNat c) 1).bind _) = _
        rw [if_neg hne, z1]
        simp only [Option.bind_some]
        rw [u_S]
        show some (Sum.inl ((x &&& ((1 <<< (Int32.ofNat c &&& 31)) ^^^ (-1)) : Int32), Int32.ofNat (i + 1), h2)) = _
        rw [hx']
      · show l_231_19 y x 1 m = _
        unfold l_231_19
        rw [if_neg no10, q1]
        simp only [Option.bind_some]
        rw [li]
        simp only [Option.bind_some]
        show q_231_64 m1 y x (Int32.ofNat c) (if Int32.ofNat c = -1 then 0 else 1 : Int32) = _
        rw [if_neg hne]
        unfold q_231_64
        rw [if_neg no10, z2]
        simp only [Option.bind_some]
        rw [hx']
      · rw [em20] at z3
        rw [z3] at w5
        have e1 : y' + m 1076 20 + r = y + m' 1076 20 + r := by
          rw [Int32.add_assoc, w5, Int32.add_assoc, Int32.add_comm r, ← Int32.add_assoc]
        exact (Int32.add_left_inj r).mp e1
/-- restore -/
theorem call_13 (H : CI b h m) (hb : b + 20 ≤ 1000000) : OUT b h m (p_110 h) (p_231 m) [(1, 1)] := by
  obtain ⟨n, nw, k, hk, H⟩ := CI_up H hb
  have h16 := H.2.1.1
  obtain ⟨q1, q2, q3, q4, q5⟩ := H.2.2.2.2.2.1
  by_cases e : h 0 17 = 0
  · refine OUT_x H (id := 1) (e := 1) (v := 0) ?_ ?_ (List.mem_singleton.mpr rfl)
    · unfold p_110; rw [if_pos e]
    · unfold p_231
      rw [go_1 (by rw [← q1]; exact e)]
      simp only [Option.bind_some, if_true]
  · have H79 := CP_79 (x := 0) H
    generalize hm0 : w_up m 1076 79 0 = m0 at H79
    have m0q : ∀ q, q ≠ 1076 → m0 q = m q := fun q a => by rw [← hm0]; exact funext fun o => w_up_q a
    have m0b : ∀ o, o ≠ 79 → m0 1076 o = m 1076 o := fun o a => by rw [← hm0, w_up_b a]
    obtain ⟨r, y', m', k', w1, w2, w3, w4, w5⟩ := rs_loop 16 0 k (h 0 15 ||| h 0 16) 0 h m0 w_N w_N (by omega) H79 (fun c hc _ => by rw [m0q 1100 (by decide)]; exact q5 e c hc) (cnt_16 _ h16) (by omega) (by unfold w_N; omega) (by unfold w_N; omega)
    generalize hg2 : w_up (sel r) 0 17 0 = g2
    generalize hp2 : w_up m' 1076 45 0 = p2
    have g2q : ∀ z, z ≠ 0 → g2 z = sel r z := fun z a => by rw [← hg2]; exact funext fun o => w_up_q a
    have g20 : ∀ o, o ≠ 17 → g2 0 o = sel r 0 o := fun o a => by rw [← hg2, w_up_b a]
    have p2q : ∀ q, q ≠ 1076 → p2 q = m' q := fun q a => by rw [← hp2]; exact funext fun o => w_up_q a
    have p276 : ∀ o, o ≠ 45 → p2 1076 o = m' 1076 o := fun o a => by rw [← hp2, w_up_b a]
    have HC : CP g2 p2 n nw k' (b + 20) := CP_bld w3 (fun z hz => g2q z (by omega)) (fun q hq => p2q q (by omega)) (g20 10 (by decide)) (by rw [g2q 4 (by decide)]) (p276 2 (by decide)) (p276 48 (by decide)) (SCL_fr w3.2.2.2.2.1 ⟨by rw [g2q 40 (by decide)], by rw [g2q 40 (by decide)]⟩ (fun o ho => g20 o (by omega)) (fun o ho => p276 o (by omega))) (RSB_no w3.2.2.2.2.2.1 (by rw [← hg2, w_up_at]) (g20 15 (by decide)) (g20 16 (by decide)) (by rw [← hp2, w_up_at]) (p276 46 (by decide)) (p276 47 (by decide))) (WG_fr w3.2.2.2.2.2.2.1 (by rw [g2q 4 (by decide)]) (fun z hz => g2q z (by omega)) (fun q hq => p2q q (by omega))) (TY_fr w3.2.2.2.2.2.2.2.1 (fun z a _ => g2q z (by omega)) (fun q hq => p2q q (by omega))) (fun w hw => by rw [g2q 8 (by decide), p2q 1115 (by decide)]; exact w3.2.2.2.1.1 w hw) (p2q 1123 (by decide))
    have ev : g2 0 12 - h 0 12 = y' := by
      rw [g20 12 (by decide), w3.2.2.2.2.1.2.2.2.1, H.2.2.2.2.1.2.2.2.1]
      rw [m0b 20 (by decide), Int32.zero_add] at w5
      rw [← w5]
      exact Int32.add_sub_cancel ..
    refine ⟨.inl y', g2, y', p2, ?_, ?_, ⟨n, nw, k', HC⟩, EF_trans (EF_trans (by rw [← hm0]; exact EF_76) (EF_RN w4)) ⟨fun z hz => g2q z (by omega), fun q hq => p2q q (by omega)⟩, Or.inl ⟨rfl, by rw [p276 79 (by decide), w4.2.2.1, ← hm0, w_up_at]⟩⟩
    · unfold p_110
      rw [if_neg e]
      have w1' : w_lp (fun (s : Int32 × Int32 × Hp) => l_110_15 s.1 s.2.1 s.2.2) w_N (((h 0 15) ||| (h 0 16)), 0, h) = some r := w1
      rw [w1']
      simp only [Option.bind_some]
      unfold q_110_43
      cases r with
      | inl a =>
        have : w_up a 0 17 0 = g2 := hg2
        simp only [Sum.elim_inl, w_let]
        rw [this, ev]
      | inr a =>
        have : w_up a 0 17 0 = g2 := hg2
        simp only [Sum.elim_inr, w_let]
        rw [this, ev]
    · unfold p_231
      rw [go_0 (by rw [← q1]; exact e) no10 no10]
      simp only [Option.bind_some, no10, if_false]
      rw [hm0, m0b 46 (by decide), m0b 47 (by decide), ← q3, ← q4, w2]
      simp only [Option.bind_some, w_let]
      rw [hp2]
end SC2
