/-! ===== checkpoint, kill ===== -/
section SC1
variable {h h' h1 g m m' m1 p : Hp} {n nw k k' B B' b c i l : Nat} {T : List Int32} {lang us x y z : Int32} {s : Nat → Int32}
theorem ck_tail (hn : p 1076 2 = Int32.ofNat n) (h16 : n ≤ 16) (h0 : ∀ c, n ≤ c → c < 16 → p 1106 c = 0) : ∀ (d i M : Nat), i + d = 16 → n ≤ i → d + 1 ≤ M → w_lp (fun (s : Int32 × Int32 × Hp) => l_227_9 s.1 s.2.1 s.2.2) M (x, Int32.ofNat i, p) = some (x, p) := by
  intro d
  induction d with
  | zero =>
    intro i M hi hni hM
    obtain ⟨M, rfl⟩ : ∃ a, M = a + 1 := ⟨M - 1, by omega⟩
    have e : i = 16 := by omega
    subst e
    refine lp_r (t := (x, Int32.ofNat 16, p)) ?_
    show l_227_9 x (Int32.ofNat 16) p = _
    unfold l_227_9
    rw [if_neg (by decide)]
  | succ d ih =>
    intro i M hi hni hM
    obtain ⟨M, rfl⟩ : ∃ a, M = a + 1 := ⟨M - 1, by omega⟩
    have lt16 : Int32.ofNat i < 16 := (u_ltL (n := 16) (by omega) (by decide)).mpr (by omega)
    have nlt : ¬ Int32.ofNat i < Int32.ofNat n := fun hh => absurd ((u_lt (by omega) (by omega)).mp hh) (by omega)
    refine (lp_l (t := (x, Int32.ofNat i, p)) (t' := (x, Int32.ofNat (i + 1), p)) ?_).trans (ih (i + 1) M (by omega) (by omega) (by omega))
    show l_227_9 x (Int32.ofNat i) p = _
    unfold l_227_9
    rw [if_pos lt16, hn, if_neg nlt, if_neg nlt]
    simp only [w_gd]
    unfold q_227_31
    rw [lp_F]
    simp only [Option.bind_some]
    unfold q_227_56
    rw [lp_G]
    simp only [Option.bind_some]
    unfold q_227_92
    have n52 : j_nar 52 0 = 0 := rfl
    have es : w_up p 1106 i 0 = p := by
      have := w_up_self (h := p) (q := 1106) (b := i)
      rw [h0 i hni (by omega)] at this; exact this
    simp (disch := omega) only [u_ix, u_cl, w_gd, w_let, n52, u_S, es]
    rw [if_pos trivial]
theorem ck_loop : ∀ (d i : Nat) (x : Int32) (h m : Hp) (N M : Nat), i + d = n → d + 1 ≤ N → d + 20 ≤ M → CP h m n nw k B → isSt n (ndc h n nw) (twh h n nw 26) (own h n nw) s → (∀ c, c < n → h 3 c = s c ∧ m 1122 c = s c) → ∃ y g p, w_lp (fun (s : Int32 × Int32 × Hp) => l_108_6 s.1 s.2.1 s.2.2) N (x, Int32.ofNat i, h) = some (y, g) ∧ w_lp (fun (s : Int32 × Int32 × Hp) => l_227_9 s.1 s.2.1 s.2.2) M (x, Int32.ofNat i, m) = some (y, p) ∧ CP g p n nw k B ∧ RN n nw h m g p := by
  intro d
  induction d with
  | zero =>
    intro i x h m N M hi hN hM H hs he
    obtain ⟨N, rfl⟩ : ∃ a, N = a + 1 := ⟨N - 1, by omega⟩
    have e : i = n := by omega
    subst e
    have h16 := H.2.1.1
    refine ⟨x, h, m, lp_r (t := (x, Int32.ofNat i, h)) ?_, ck_tail (n := i) H.2.2.1.2.2.1 h16 (fun c a d => (H.2.2.2.2.2.2.2.2.1 c d).2.2.2.1.2.2.1 a) (16 - i) i M (by omega) (Nat.le_refl _) (by omega), H, RN_refl⟩
    show l_108_6 x (Int32.ofNat i) h = _
    unfold l_108_6
    rw [H.2.1.2.1, if_neg (fun hh => Nat.lt_irrefl _ ((u_lt (by omega) (by omega)).mp hh))]
  | succ d ih =>
    intro i x h m N M hi hN hM H hs he
    obtain ⟨N, rfl⟩ : ∃ a, N = a + 1 := ⟨N - 1, by omega⟩
    obtain ⟨M, rfl⟩ : ∃ a, M = a + 1 := ⟨M - 1, by omega⟩
    have hin : i < n := by omega
    obtain ⟨y, g, p, q1, q2, q3, q4, q5, q6, q7⟩ := ck_step (x := x) H hs hin (he i hin).1 (he i hin).2
    obtain ⟨y', g', p', z1, z2, z3, z4⟩ := ih (i + 1) y g p N M (by omega) (by omega) (by omega) q3 q4 (fun c hc => by rw [q6, q7]; exact he c hc)
    exact ⟨y', g', p', (lp_l (t := (x, Int32.ofNat i, h)) q1).trans z1, (lp_l (t := (x, Int32.ofNat i, m)) q2).trans z2, z3, RN_trans q5 z4⟩
/-- checkpoint -/
theorem call_11 (H : CI b h m) (hb : b + 20 ≤ 1000000) : ∃ v h' m', p_108 h = some (v, h') ∧ p_227 m = some (v, m') ∧ CI (b + 20) h' m' ∧ EF h m h' m' := by
  obtain ⟨n, nw, k, hk, H⟩ := CI_up H hb
  have h16 := H.2.1.1
  obtain ⟨m1, q1, g1, L1, t1, H1⟩ := cp_looks (CP_79 (x := 0) H)
  obtain ⟨h1, p1, f1, s1, H1'⟩ := cp_judge H1
  have RJ : RN n nw h m1 h1 m1 := RN_st f1
  have RL : RN n nw h (w_up m 1076 79 0) h m1 := RN_lk g1
  obtain ⟨y, g, p, z1, z2, z3, z4⟩ := ck_loop (s := h1 3) n 0 0 h1 m1 w_N w_N (by omega) (by unfold w_N; omega) (by unfold w_N; omega) H1' (by rw [RN_ndc RJ, RJ.2.2.2.2, own_st f1]; exact s1) (fun c hc => ⟨rfl, (st_unique s1 t1 c hc).symm⟩)
  refine ⟨y, g, p, ?_, ?_, ⟨n, nw, k, z3⟩, EF_trans EF_76 (EF_trans (EF_RN RL) (EF_trans (EF_RN RJ) (EF_RN z4)))⟩
  · unfold p_108
    rw [p1]
    exact z1
  · unfold p_227
    simp only [w_let]
    rw [q1]
    exact z2
/-- the kernel is killed: the class -/
theorem c_109 (h16 : n ≤ 16) (hn : h 0 10 = Int32.ofNat n) (hs : ∀ c, c < n → h 3 c = s c) (h15 : h 0 15 = 0) (h016 : h 0 16 = 0) : ok (w_lp (fun (s : Int32 × Hp) => l_109_10 s.1 s.2) w_N (0, h)) (fun g => g 0 15 = sbo (fun c => decide (s c = 0)) 0 n ∧ g 0 16 = sbo (fun c => decide (s c = 2)) 0 n ∧ (∀ o, o ≠ 15 → o ≠ 16 → g 0 o = h 0 o) ∧ (∀ z, z ≠ 0 → (∀ j, j < n → z ≠ 64 * j + 52) → g z = h z) ∧ (∀ j, j < n → g (64 * j + 52) 15 = 0 ∧ g (64 * j + 52) 8 = 0 ∧ g (64 * j + 52) 9 = 0 ∧ ∀ o, o ≠ 15 → o ≠ 8 → o ≠ 9 → g (64 * j + 52) o = h (64 * j + 52) o)) := by
  refine ok_for (fun i st => st.1 = Int32.ofNat i ∧ st.2 0 15 = sbo (fun c => decide (s c = 0)) 0 i ∧ st.2 0 16 = sbo (fun c => decide (s c = 2)) 0 i ∧ (∀ o, o ≠ 15 → o ≠ 16 → st.2 0 o = h 0 o) ∧ (∀ z, z ≠ 0 → (∀ j, j < i → z ≠ 64 * j + 52) → st.2 z = h z) ∧ (∀ j, j < i → st.2 (64 * j + 52) 15 = 0 ∧ st.2 (64 * j + 52) 8 = 0 ∧ st.2 (64 * j + 52) 9 = 0 ∧ ∀ o, o ≠ 15 → o ≠ 8 → o ≠ 9 → st.2 (64 * j + 52) o = h (64 * j + 52) o)) n ⟨rfl, h15, h016, fun _ _ _ => rfl, fun _ _ _ => rfl, fun j hj => absurd hj (Nat.not_lt_zero _)⟩ (by unfold w_N; omega) ?_ ?_
  · rintro i ⟨j, q⟩ hi ⟨rfl, e1, e2, e3, e4, e5⟩
    have e1' : q 0 15 = sbo (fun c => decide (s c = 0)) 0 i := e1
    have e2' : q 0 16 = sbo (fun c => decide (s c = 2)) 0 i := e2
    have e3' : ∀ o, o ≠ 15 → o ≠ 16 → q 0 o = h 0 o := e3
    have e4' : ∀ z, z ≠ 0 → (∀ j, j < i → z ≠ 64 * j + 52) → q z = h z := e4
    have lt1 : Int32.ofNat i < Int32.ofNat n := (u_lt (by omega) (by omega)).mpr hi
    have q3 : q 3 = h 3 := e4' 3 (by decide) (fun j _ => by omega)
    have qi : q (64 * i + 52) = h (64 * i + 52) := e4' _ (by omega) (fun j hj => by omega)
    -- the cell forgets
    have fin : ∀ r : Hp, (∀ z, z ≠ 0 → r z = q z) → r 0 15 = sbo (fun c => decide (s c = 0)) 0 (i + 1) → r 0 16 = sbo (fun c => decide (s c = 2)) 0 (i + 1) → (∀ o, o ≠ 15 → o ≠ 16 → r 0 o = q 0 o) → ok (q_109_42 r (Int32.ofNat i)) (Sum.elim (fun st => st.1 = Int32.ofNat (i + 1) ∧ st.2 0 15 = sbo (fun c => decide (s c = 0)) 0 (i + 1) ∧ st.2 0 16 = sbo (fun c => decide (s c = 2)) 0 (i + 1) ∧ (∀ o, o ≠ 15 → o ≠ 16 → st.2 0 o = h 0 o) ∧ (∀ z, z ≠ 0 → (∀ j, j < i + 1 → z ≠ 64 * j + 52) → st.2 z = h z) ∧ (∀ j, j < i + 1 → st.2 (64 * j + 52) 15 = 0 ∧ st.2 (64 * j + 52) 8 = 0 ∧ st.2 (64 * j + 52) 9 = 0 ∧ ∀ o, o ≠ 15 → o ≠ 8 → o ≠ 9 → st.2 (64 * j + 52) o = h (64 * j + 52) o)) (fun g => g 0 15 = sbo (fun c => decide (s c = 0)) 0 n ∧ g 0 16 = sbo (fun c => decide (s c = 2)) 0 n ∧ (∀ o, o ≠ 15 → o ≠ 16 → g 0 o = h 0 o) ∧ (∀ z, z ≠ 0 → (∀ j, j < n → z ≠ 64 * j + 52) → g z = h z) ∧ (∀ j, j < n → g (64 * j + 52) 15 = 0 ∧ g (64 * j + 52) 8 = 0 ∧ g (64 * j + 52) 9 = 0 ∧ ∀ o, o ≠ 15 → o ≠ 8 → o ≠ 9 → g (64 * j + 52) o = h (64 * j + 52) o))) := by
      intro r r1 r2 r3 r4
      unfold q_109_42 p_6
      simp (disch := omega) only [u_ix, u_cl, w_gd, w_let, Option.bind_some]
      generalize hw : w_up (w_up (w_up r (64 * i + 52) 15 0) (64 * i + 52) 8 0) (64 * i + 52) 9 0 = w
      have wq : ∀ z, z ≠ 64 * i + 52 → w z = r z := fun z a => by rw [← hw]; funext o; rw [w_up_q a, w_up_q a, w_up_q a]
      refine ok_some ⟨u_S i, ?_, ?_, fun o a d => ?_, fun z a d => ?_, fun j hj => ?_⟩
      · show w 0 15 = _; rw [wq 0 (by omega)]; exact r2
      · show w 0 16 = _; rw [wq 0 (by omega)]; exact r3
      · show w 0 o = _; rw [wq 0 (by omega), r4 o a d]; exact e3' o a d
      · show w z = h z
        rw [wq z (d i (Nat.lt_succ_self i)), r1 z a]
        exact e4' z a (fun j hj => d j (by omega))
      · show w (64 * j + 52) 15 = 0 ∧ w (64 * j + 52) 8 = 0 ∧ w (64 * j + 52) 9 = 0 ∧ _
        by_cases e : j = i
        · subst e
          refine ⟨by rw [← hw, w_up_b (by decide), w_up_b (by decide), w_up_at], by rw [← hw, w_up_b (by decide), w_up_at], by rw [← hw, w_up_at], fun o a d f => ?_⟩
          show w (64 * j + 52) o = _
          rw [← hw, w_up_b f, w_up_b d, w_up_b a, r1 _ (by omega), qi]
        · rw [wq _ (by omega), r1 _ (by omega)]
          obtain ⟨x1, x2, x3, x4⟩ := e5 j (by omega)
          refine ⟨x1, x2, x3, fun o a d f => ?_⟩
          show w (64 * j + 52) o = _
          rw [wq _ (by omega), r1 _ (by omega)]; exact x4 o a d f
    have step0 : sbo (fun c => decide (s c = 0)) 0 (i + 1) = sbo (fun c => decide (s c = 0)) 0 i ||| (if decide (s i = 0) = true then 1 <<< (Int32.ofNat (0 + i) &&& 31) else 0) := rfl
    have step2 : sbo (fun c => decide (s c = 2)) 0 (i + 1) = sbo (fun c => decide (s c = 2)) 0 i ||| (if decide (s i = 2) = true then 1 <<< (Int32.ofNat (0 + i) &&& 31) else 0) := rfl
    rw [Nat.zero_add] at step0 step2
    have or0 : ∀ a : Int32, a ||| 0 = a := fun a => bt_ext fun j _ => by rw [bt_or, bt_zero, Bool.or_false]
    show ok (l_109_10 (Int32.ofNat i) q) _
    unfold l_109_10
    rw [e3' 10 (by decide) (by decide), hn, if_pos lt1]
    simp (disch := omega) only [u_ix, u_cl, w_gd]
    rw [q3, hs i hi]
    by_cases c0 : s i = 0
    · rw [if_pos c0]
      simp only [w_let]
      refine fin _ (fun z a => funext fun o => w_up_q a) ?_ ?_ (fun o a d => w_up_b a)
      · rw [w_up_at, step0, decide_eq_true c0, if_pos rfl, e1']
      · rw [w_up_b (by decide), step2, decide_eq_false (by rw [c0]; decide), if_neg (by decide), or0, e2']
    · rw [if_neg c0]
      by_cases c2 : s i = 2
      · rw [if_pos c2]
        simp only [w_let]
        refine fin _ (fun z a => funext fun o => w_up_q a) ?_ ?_ (fun o a d => w_up_b d)
        · rw [w_up_b (by decide), step0, decide_eq_false c0, if_neg (by decide), or0, e1']
        · rw [w_up_at, step2, decide_eq_true c2, if_pos rfl, e2']
      · rw [if_neg c2]
        refine fin q (fun _ _ => rfl) ?_ ?_ (fun _ _ _ => rfl)
        · rw [step0, decide_eq_false c0, if_neg (by decide), or0, e1']
        · rw [step2, decide_eq_false c2, if_neg (by decide), or0, e2']
  · rintro ⟨j, q⟩ ⟨rfl, e1, e2, e3, e4, e5⟩
    have e3' : ∀ o, o ≠ 15 → o ≠ 16 → q 0 o = h 0 o := e3
    show ok (l_109_10 (Int32.ofNat n) q) _
    unfold l_109_10
    rw [e3' 10 (by decide) (by decide), hn, if_neg (fun hh => Nat.lt_irrefl _ ((u_lt (by omega) (by omega)).mp hh))]
    exact ok_some ⟨e1, e2, e3, e4, e5⟩
/-- the model -/
theorem m_228l (h16 : n ≤ 16) (hn : m 1076 2 = Int32.ofNat n) (hs : ∀ c, c < n → m 1122 c = s c) (h46 : m 1076 46 = 0) (h47 : m 1076 47 = 0) : ok (w_lp (fun (s : Int32 × Int32 × Hp) => l_228_15 s.1 s.2.1 s.2.2) w_N (0, 0, m)) (fun e => e.1 = Int32.ofNat (cnt (fun c => decide (s c = 0)) n) ∧ e.2 1076 46 = sbo (fun c => decide (s c = 0)) 0 n ∧ e.2 1076 47 = sbo (fun c => decide (s c = 2)) 0 n ∧ (∀ o, o ≠ 46 → o ≠ 47 → e.2 1076 o = m 1076 o) ∧ (∀ q, q ≠ 1076 → q ≠ 1087 → q ≠ 1100 → e.2 q = m q) ∧ (∀ j, j < n → e.2 1087 j = 0 ∧ e.2 1100 j = 0) ∧ ∀ j, n ≤ j → e.2 1087 j = m 1087 j ∧ e.2 1100 j = m 1100 j) := by
  refine ok_for (fun i st => st.2.1 = Int32.ofNat i ∧ st.1 = Int32.ofNat (cnt (fun c => decide (s c = 0)) i) ∧ st.2.2 1076 46 = sbo (fun c => decide (s c = 0)) 0 i ∧ st.2.2 1076 47 = sbo (fun c => decide (s c = 2)) 0 i ∧ (∀ o, o ≠ 46 → o ≠ 47 → st.2.2 1076 o = m 1076 o) ∧ (∀ q, q ≠ 1076 → q ≠ 1087 → q ≠ 1100 → st.2.2 q = m q) ∧ (∀ j, j < i → st.2.2 1087 j = 0 ∧ st.2.2 1100 j = 0) ∧ ∀ j, i ≤ j → st.2.2 1087 j = m 1087 j ∧ st.2.2 1100 j = m 1100 j) n ⟨rfl, rfl, h46, h47, fun _ _ _ => rfl, fun _ _ _ _ => rfl, fun j hj => absurd hj (Nat.not_lt_zero _), fun _ _ => ⟨rfl, rfl⟩⟩ (by unfold w_N; omega) ?_ ?_
  · rintro i ⟨y, j, q⟩ hi ⟨rfl, e0, e1, e2, e3, e4, e5, e6⟩
    have e0' : y = Int32.ofNat (cnt (fun c => decide (s c = 0)) i) := e0
    have e1' : q 1076 46 = sbo (fun c => decide (s c = 0)) 0 i := e1
    have e2' : q 1076 47 = sbo (fun c => decide (s c = 2)) 0 i := e2
    have e3' : ∀ o, o ≠ 46 → o ≠ 47 → q 1076 o = m 1076 o := e3
    have e4' : ∀ r, r ≠ 1076 → r ≠ 1087 → r ≠ 1100 → q r = m r := e4
    have lt1 : Int32.ofNat i < Int32.ofNat n := (u_lt (by omega) (by omega)).mpr hi
    have q22 : q 1122 i = s i := by rw [e4' 1122 (by decide) (by decide) (by decide)]; exact hs i hi
    have step0 : sbo (fun c => decide (s c = 0)) 0 (i + 1) = sbo (fun c => decide (s c = 0)) 0 i ||| (if decide (s i = 0) = true then 1 <<< (Int32.ofNat (0 + i) &&& 31) else 0) := rfl
    have step2 : sbo (fun c => decide (s c = 2)) 0 (i + 1) = sbo (fun c => decide (s c = 2)) 0 i ||| (if decide (s i = 2) = true then 1 <<< (Int32.ofNat (0 + i) &&& 31) else 0) := rfl
    rw [Nat.zero_add] at step0 step2
    have dec : ∀ (a z : Int32), (if decide (s i = a) = true then z else 0) = (if s i = a then z else 0) := fun a z => by
      by_cases e : s i = a
      · rw [decide_eq_true e, if_pos rfl, if_pos e]
      · rw [decide_eq_false e, if_neg (by decide), if_neg e]
    rw [dec] at step0 step2
    have stepc : cnt (fun c => decide (s c = 0)) (i + 1) = cnt (fun c => decide (s c = 0)) i + (if s i = 0 then 1 else 0) := by
      show cnt (fun c => decide (s c = 0)) i + (if decide (s i = 0) = true then 1 else 0) = _
      by_cases e : s i = 0
      · rw [decide_eq_true e, if_pos rfl, if_pos e]
      · rw [decide_eq_false e, if_neg (by decide), if_neg e]
    have sumv : Int32.ofNat (cnt (fun c => decide (s c = 0)) i) + (if s i = 0 then 1 else 0 : Int32) = Int32.ofNat (cnt (fun c => decide (s c = 0)) (i + 1)) := by
      rw [stepc]
      by_cases e : s i = 0
      · rw [if_pos e, if_pos e, u_S]
      · rw [if_neg e, if_neg e, Int32.add_zero, Nat.add_zero]
    generalize hX : (q 1076 46 ||| (if s i = 0 then (1 <<< (Int32.ofNat i &&& 31)) else 0) : Int32) = X
    generalize hY : (q 1076 47 ||| (if s i = 2 then (1 <<< (Int32.ofNat i &&& 31)) else 0) : Int32) = Y
    generalize hw : w_up (w_up (w_up (w_up q 1076 46 X) 1076 47 Y) 1087 i 0) 1100 i 0 = w
    have key : l_228_15 y (Int32.ofNat i) q = some (.inl (y + (if s i = 0 then 1 else 0 : Int32), Int32.ofNat (i + 1), w)) := by
      unfold l_228_15
      rw [e3' 2 (by decide) (by decide), hn, if_pos lt1]
      unfold q_228_32 q_228_48 q_228_59
      simp (disch := omega) only [u_ix, u_cl, w_gd, w_let, w_up_q, q22, u_S]
      rw [hX, w_up_b (by decide), hY, hw]
    show ok (l_228_15 y (Int32.ofNat i) q) _
    rw [key]
    refine ok_some ⟨rfl, ?_, ?_, ?_, fun o a d => ?_, fun r a d e => ?_, fun j hj => ?_, fun j hj => ?_⟩
    · show y + _ = _
      rw [e0', sumv]
    · show w 1076 46 = _
      rw [← hw, w_up_q (by decide), w_up_q (by decide), w_up_b (by decide), w_up_at, ← hX, e1', step0]
    · show w 1076 47 = _
      rw [← hw, w_up_q (by decide), w_up_q (by decide), w_up_at, ← hY, e2', step2]
    · show w 1076 o = _
      rw [← hw, w_up_q (by decide), w_up_q (by decide), w_up_b d, w_up_b a]; exact e3' o a d
    · show w r = _
      funext o
      rw [← hw, w_up_q e, w_up_q d, w_up_q a, w_up_q a]; exact congrFun (e4' r a d e) o
    · show w 1087 j = 0 ∧ w 1100 j = 0
      by_cases e : j = i
      · subst e
        rw [← hw, w_up_q (by decide), w_up_at, w_up_at]; exact ⟨rfl, rfl⟩
      · rw [← hw, w_up_q (by decide), w_up_b e, w_up_q (by decide), w_up_q (by decide), w_up_b e, w_up_q (by decide), w_up_q (by decide), w_up_q (by decide)]
        exact e5 j (by omega)
    · show w 1087 j = _ ∧ w 1100 j = _
      rw [← hw, w_up_q (by decide), w_up_b (by omega), w_up_q (by decide), w_up_q (by decide), w_up_b (by omega), w_up_q (by decide), w_up_q (by decide), w_up_q (by decide)]
      exact e6 j (by omega)
  · rintro ⟨y, j, q⟩ ⟨rfl, e0, e1, e2, e3, e4, e5, e6⟩
    have e3' : ∀ o, o ≠ 46 → o ≠ 47 → q 1076 o = m 1076 o := e3
    show ok (l_228_15 y (Int32.ofNat n) q) _
    unfold l_228_15
    rw [e3' 2 (by decide) (by decide), hn, if_neg (fun hh => Nat.lt_irrefl _ ((u_lt (by omega) (by omega)).mp hh))]
    exact ok_some ⟨e0, e1, e2, e3, e4, e5, e6⟩
/-- kill -/
theorem call_12 (H : CI b h m) (hb : b + 20 ≤ 1000000) : ∃ v h' m', p_109 h = some (v, h') ∧ p_228 m = some (v, m') ∧ CI (b + 20) h' m' ∧ EF h m h' m' := by
  obtain ⟨n, nw, k, hk, H⟩ := CI_up H hb
  have h16 := H.2.1.1
  obtain ⟨m1, q1, g1, L1, t1, H1⟩ := cp_looks (CP_79 (x := 0) H)
  obtain ⟨h1, p1, f1, s1, H1'⟩ := cp_judge H1
  have RJ : RN n nw h m1 h1 m1 := RN_st f1
  have RL : RN n nw h (w_up m 1076 79 0) h m1 := RN_lk g1
  have same : ∀ c, c < n → m1 1122 c = h1 3 c := fun c hc => (st_unique s1 t1 c hc).symm
  obtain ⟨g, a1, a2, a3, a4, a5, a6⟩ := c_109 (h := w_up (w_up h1 0 15 0) 0 16 0) (n := n) (s := h1 3) h16 (by rw [w_up_b (by decide), w_up_b (by decide)]; exact H1'.2.1.2.1) (fun c hc => by rw [w_up_q (by decide), w_up_q (by decide)]) (by rw [w_up_b (by decide), w_up_at]) w_up_at
  obtain ⟨⟨y, p⟩, b1, b2, b3, b4, b5, b6, b7, b8⟩ := m_228l (m := w_up (w_up m1 1076 46 0) 1076 47 0) (n := n) (s := h1 3) h16 (by rw [w_up_b (by decide), w_up_b (by decide)]; exact H1'.2.2.1.2.2.1) (fun c hc => by rw [w_up_q (by decide), w_up_q (by decide)]; exact same c hc) (by rw [w_up_b (by decide), w_up_at]) w_up_at
  generalize hg2 : w_up g 0 17 1 = g2
  generalize hp2 : w_up p 1076 45 1 = p2
  have g2q : ∀ z, z ≠ 0 → (∀ j, j < n → z ≠ 64 * j + 52) → g2 z = h1 z := fun z a d => by
    rw [← hg2]; funext o
    rw [w_up_q a, a5 z a d, w_up_q a, w_up_q a]
  have g20 : ∀ o, o ≠ 15 → o ≠ 16 → o ≠ 17 → g2 0 o = h1 0 o := fun o a d e => by rw [← hg2, w_up_b e, a4 o a d, w_up_b d, w_up_b a]
  have g2c : ∀ j, j < n → g2 (64 * j + 52) 15 = 0 ∧ g2 (64 * j + 52) 8 = 0 ∧ g2 (64 * j + 52) 9 = 0 ∧ ∀ o, o ≠ 15 → o ≠ 8 → o ≠ 9 → g2 (64 * j + 52) o = h1 (64 * j + 52) o := fun j hj => by
    obtain ⟨x1, x2, x3, x4⟩ := a6 j hj
    refine ⟨by rw [← hg2, w_up_q (by omega)]; exact x1, by rw [← hg2, w_up_q (by omega)]; exact x2, by rw [← hg2, w_up_q (by omega)]; exact x3, fun o a d e => ?_⟩
    rw [← hg2, w_up_q (by omega), x4 o a d e, w_up_q (by omega), w_up_q (by omega)]
  have p2q : ∀ q, q ≠ 1076 → q ≠ 1087 → q ≠ 1100 → p2 q = m1 q := fun q a d e => by
    rw [← hp2]; funext o
    have := congrFun (b6 q a d e) o
    rw [w_up_q a]
    rw [w_up_q a, w_up_q a] at this
    exact this
  have p276 : ∀ o, o ≠ 46 → o ≠ 47 → o ≠ 45 → p2 1076 o = m1 1076 o := fun o a d e => by
    rw [← hp2, w_up_b e]
    have := b5 o a d
    rw [w_up_b d, w_up_b a] at this
    exact this
  have p287 : ∀ j, j < n → p2 1087 j = 0 ∧ p2 1100 j = 0 := fun j hj => by
    rw [← hp2, w_up_q (by decide), w_up_q (by decide)]; exact b7 j hj
  have p287o : ∀ j, n ≤ j → p2 1087 j = m1 1087 j ∧ p2 1100 j = m1 1100 j := fun j hj => by
    rw [← hp2, w_up_q (by decide), w_up_q (by decide)]
    obtain ⟨x1, x2⟩ := b8 j hj
    refine ⟨x1.trans ?_, x2.trans ?_⟩
    · rw [w_up_q (by decide), w_up_q (by decide)]
    · rw [w_up_q (by decide), w_up_q (by decide)]
  obtain ⟨bb, J, W, R, S, Q, G, Y, P, C, V, V2, U⟩ := H1'
  have ec : ∀ j, j < 16 → g2 (64 * j + 55) = h1 (64 * j + 55) := fun j hj => g2q _ (by omega) (fun i _ => by omega)
  have HC : CP g2 p2 n nw k (b + 20) := by
    refine ⟨bb, JOK_fr J (g20 10 (by decide) (by decide) (by decide)) (by rw [g2q 4 (by omega) (fun i _ => by omega)]) (g2q 5 (by omega) (fun i _ => by omega)) (fun z a d => g2q z (by omega) (fun i _ => by omega)) ec, MW_eq W (g2q 5 (by omega) (fun i _ => by omega)) ec (p276 2 (by decide) (by decide) (by decide)) (p276 48 (by decide) (by decide) (by decide)) (fun q hq => p2q q (by omega) (by omega) (by omega)), ⟨fun w hw => ?_, fun j hj => ?_, fun i j hi hj hne => ?_⟩, SCL_fr S ⟨by rw [g2q 40 (by omega) (fun i _ => by omega)], by rw [g2q 40 (by omega) (fun i _ => by omega)]⟩ (fun o ho => g20 o (by omega) (by omega) (by omega)) (fun o ho => p276 o (by omega) (by omega) (by omega)), ⟨?_, Or.inr ?_, ?_, ?_, fun _ j hj => ?_⟩, WG_fr G (by rw [g2q 4 (by omega) (fun i _ => by omega)]) (fun z hz => g2q z (by omega) (fun i _ => by omega)) (fun q hq => p2q q (by omega) (by omega) (by omega)), TY_fr Y (fun z a d => g2q z (by omega) (fun i _ => by omega)) (fun q hq => p2q q (by omega) (by omega) (by omega)), fun j hj => ?_, fun j hj => ?_, fun j x hj hx => ?_, fun j x hj hx => ?_, fun j hj => fun hh => absurd (g2c j hj).1 hh⟩
    · rw [g2q 8 (by omega) (fun i _ => by omega), p2q 1115 (by decide) (by decide) (by decide)]; exact R.1 w hw
    · obtain ⟨x1, x2, x3, x4⟩ := g2c j hj
      have e79 : g2 (64 * j + 79) = h1 (64 * j + 79) := g2q _ (by omega) (fun i _ => by omega)
      obtain ⟨q1, q2, q3, q4⟩ := R.2.1 j hj
      refine ⟨⟨fun hh => absurd x1 hh, fun hh => absurd hh.1 (by rw [(p287 j hj).1]; decide)⟩, ?_, ?_, fun hh => absurd x1 hh⟩
      · rw [x4 14 (by decide) (by decide) (by decide), p2q 1088 (by decide) (by decide) (by decide)]; exact q2
      · rw [p2q 1088 (by decide) (by decide) (by decide)]; exact q3
    · rw [p2q 1088 (by decide) (by decide) (by decide)]; exact R.2.2 i j hi hj hne
    · rw [← hg2, w_up_at, ← hp2, w_up_at]
    · rw [← hg2, w_up_at]
    · rw [← hg2, w_up_b (by decide), a2, ← hp2, w_up_b (by decide)]; exact b3.symm
    · rw [← hg2, w_up_b (by decide), a3, ← hp2, w_up_b (by decide)]; exact b4.symm
    · exact ⟨(g2c j hj).1, (p287 j hj).2⟩
    · obtain ⟨⟨pc, po, F, PP, p0⟩, ⟨D, L, d1, d2⟩, ⟨x1, e, r, x2, x3, x4, x5, x6⟩, ⟨y1, y2, y3, y4⟩, ⟨st, st1, st2⟩, z0⟩ := P j hj
      have la : p2 1081 j = m1 1081 j := by rw [p2q 1081 (by decide) (by decide) (by decide)]
      have gc : ∀ o, o ≠ 15 → o ≠ 8 → o ≠ 9 → g2 (64 * j + 52) o = h1 (64 * j + 52) o := fun o a d e => by
        by_cases hj' : j < n
        · exact (g2c j hj').2.2.2 o a d e
        · rw [g2q _ (by omega) (fun i hi => by omega)]
      have far : ∀ z, 64 * j + 53 ≤ z → z < 64 * j + 116 → g2 z = h1 z := fun z a d => g2q z (by omega) (fun i _ => by omega)
      refine ⟨?_, ⟨D, L, drc_fr d1 (fun z a d => far z (by omega) (by omega)), dr1_fr d2 (fun _ _ => by rw [p2q 1097 (by decide) (by decide) (by decide)]) (by rw [p2q 1098 (by decide) (by decide) (by decide)]) (by rw [p2q 1096 (by decide) (by decide) (by decide)]) (fun _ _ => by rw [p2q 1095 (by decide) (by decide) (by decide)])⟩, ⟨by rw [gc 10 (by decide) (by decide) (by decide), p2q 1082 (by decide) (by decide) (by decide)]; exact x1, e, r, x2, x3, by rw [p2q 1082 (by decide) (by decide) (by decide)]; exact x4, by rw [p2q 1089 (by decide) (by decide) (by decide)]; exact x5, fun w hw hbt => ?_⟩, ⟨by rw [gc 16 (by decide) (by decide) (by decide), p2q 1106 (by decide) (by decide) (by decide)]; exact y1, by rw [p2q 1106 (by decide) (by decide) (by decide)]; exact y2, fun hh => by rw [p2q 1106 (by decide) (by decide) (by decide)]; exact y3 hh, fun hh => ?_⟩, ⟨st, st1, by rw [p2q 1088 (by decide) (by decide) (by decide)]; exact st2⟩, fun hh => ?_⟩
      · rw [la]
        by_cases hj' : j < n
        · obtain ⟨c1, c2, c3, c4⟩ := g2c j hj'
          exact ⟨0, 0, F, ⟨by omega, by omega, fun _ => rfl, c2, c3, (p287 j hj').2, fun i hi => absurd hi (Nat.not_lt_zero _), fun a d ha => absurd ha (Nat.not_lt_zero _)⟩, fun _ => rfl⟩
        · exact ⟨pc, po, F, PAST_mv PP (by rw [g2q _ (by omega) (fun i hi => by omega)]) (by rw [g2q _ (by omega) (fun i hi => by omega)]) (fun z a d => far z (by omega) (by omega)) (p287o j (by omega)).2 (fun _ _ _ => ⟨fun _ _ => by rw [p2q 1101 (by decide) (by decide) (by decide)], by rw [p2q 1102 (by decide) (by decide) (by decide)], fun _ _ => by rw [p2q 1103 (by decide) (by decide) (by decide)], fun _ _ => by rw [p2q 1104 (by decide) (by decide) (by decide)], fun _ _ => by rw [p2q 1105 (by decide) (by decide) (by decide)]⟩), p0⟩
      · rw [p2q 1090 (by decide) (by decide) (by decide)] at hbt
        rw [p276 48 (by decide) (by decide) (by decide)]; exact x6 w hw hbt
      · rw [p2q 1106 (by decide) (by decide) (by decide)] at hh
        obtain ⟨E, K⟩ := y4 hh
        rw [la]
        exact ⟨E, KE_fr K (fun z a d => far z (by omega) (by omega)) (fun _ _ => by rw [p2q 1107 (by decide) (by decide) (by decide)]) (by rw [p2q 1108 (by decide) (by decide) (by decide)]) (fun _ _ => by rw [p2q 1109 (by decide) (by decide) (by decide)]) (fun _ _ => by rw [p2q 1110 (by decide) (by decide) (by decide)]) (fun _ _ => by rw [p2q 1111 (by decide) (by decide) (by decide)])⟩
      · rw [g2q _ (by omega) (fun i hi => by omega), (p287o j hh).1, p2q 1088 (by decide) (by decide) (by decide)]; exact z0 hh
    · obtain ⟨T, CE, O⟩ := C j hj
      obtain ⟨x1, x2, x3, x4⟩ := g2c j hj
      unfold CT
      rw [p2q 1081 (by decide) (by decide) (by decide)]
      exact ⟨T, cel_fr CE (fun kk hk => g2q _ (by omega) (fun i _ => by omega)) (x4 10 (by decide) (by decide) (by decide)) ⟨by rw [p2q 1080 (by decide) (by decide) (by decide)], by rw [p2q 1081 (by decide) (by decide) (by decide)], by rw [p2q 1082 (by decide) (by decide) (by decide)], by rw [p2q 1083 (by decide) (by decide) (by decide)], by rw [p2q 1084 (by decide) (by decide) (by decide)], by rw [p2q 1085 (by decide) (by decide) (by decide)], by rw [p2q 1086 (by decide) (by decide) (by decide)]⟩ (fun o _ _ => by rw [p2q 1079 (by decide) (by decide) (by decide)]), fun hh => absurd x1 hh⟩
    · obtain ⟨v, hv⟩ := V j x hj hx
      exact ⟨v, mv_fr hv (fun _ _ _ => by rw [p2q 1093 (by decide) (by decide) (by decide)])⟩
    · obtain ⟨v, hv⟩ := V2 j x hj hx
      exact ⟨v, mv_fr hv (fun _ _ _ => by rw [p2q 1123 (by decide) (by decide) (by decide)])⟩
  have ev : cnt (bt (g2 0 15)) 32 = cnt (fun c => decide (h1 3 c = 0)) n := by
    have e15 : g2 0 15 = sbo (fun c => decide (h1 3 c = 0)) 0 n := by rw [← hg2, w_up_b (by decide), a2]
    rw [e15, show 32 = n + (32 - n) by omega, cnt_split]
    have z1 : cnt (bt (sbo (fun c => decide (h1 3 c = 0)) 0 n)) n = cnt (fun c => decide (h1 3 c = 0)) n := cnt_congr n (fun i hi => by
      rw [bt_sbo n i (by omega), decide_eq_true (Nat.zero_le i), decide_eq_true (show i < 0 + n by omega), Nat.sub_zero]; rfl)
    have z2 : cnt (fun i => bt (sbo (fun c => decide (h1 3 c = 0)) 0 n) (n + i)) (32 - n) = 0 := by
      rw [cnt_congr (32 - n) (g := fun _ => false) (fun i hi => by
        rw [bt_sbo n (n + i) (by omega), decide_eq_false (show ¬ n + i < 0 + n by omega), Bool.false_and, Bool.and_false])]
      have : ∀ k, cnt (fun _ => false) k = 0 := by
        intro k
        induction k with
        | zero => rfl
        | succ k ih => simp only [cnt]; rw [ih]; rfl
      exact this _
    rw [z1, z2, Nat.add_zero]
  refine ⟨Int32.ofNat (cnt (fun c => decide (h1 3 c = 0)) n), g2, p2, ?_, ?_, ⟨n, nw, k, HC⟩, EF_trans EF_76 (EF_trans (EF_RN RL) (EF_trans (EF_RN RJ) ⟨fun z hz => g2q z (by omega) (fun i _ => by omega), fun q hq => p2q q (by omega) (by omega) (by omega)⟩))⟩
  · unfold p_109
    rw [p1]
    simp only [Option.bind_some, w_let]
    rw [a1]
    simp only [Option.bind_some]
    rw [hg2, s_267, ev]
    rfl
  · unfold p_228
    simp only [w_let]
    rw [q1]
    simp only [Option.bind_some]
    rw [b1]
    simp only [Option.bind_some]
    rw [hp2]
    have b2' : y = Int32.ofNat (cnt (fun c => decide (h1 3 c = 0)) n) := b2
    rw [b2']
end SC1
