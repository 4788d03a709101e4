/-! ===== edit ===== -/
section SB7
variable {h h' h1 g m m' m1 p : Hp} {n n' nw k B B' b c i : Nat} {T : List Int32} {lang us x y z : Int32} {s : Nat → Int32}
theorem call_3 (H : CI b h m) (hb : b + 20 ≤ 1000000) : OUT b h m (p_100 h x y z) (p_168 m x y z) [(2, 1), (0, 2), (1, 3)] := by
  obtain ⟨n, nw, k, H0⟩ := H
  have hk := H0.1.1
  have H := CP_up H0 (B' := b + 20) ⟨by omega, hb⟩
  have h16 := H.2.1.1
  have h4 := H.2.1.2.2.2.1
  have we := cell_eq (x := y) H
  by_cases e1 : v_125 h y = 0
  · refine OUT_x H (id := 2) (e := 1) (v := 0) ?_ ?_ (List.mem_cons_self ..)
    · unfold p_100; rw [if_pos e1]
    · unfold p_168
      rw [we, if_pos e1, if_pos e1]
      simp only [w_gd]
      unfold q_168_21
      rw [go_1 e1]
      simp only [Option.bind_some, if_true]
  obtain ⟨c, hc, rfl⟩ := cell_nat H e1
  have c16 : c < 16 := by omega
  obtain ⟨T0, C0, -⟩ := H.2.2.2.2.2.2.2.2.2.1 c hc
  have hlang := C0.1
  have elang : h (64 * c + 55) 4 = m 1081 c := C0.2.2.2.1.2.2.2.1
  have eed : h (64 * c + 52) 10 = m 1082 c := C0.2.2.2.2.2.2.2.2
  have mdl0 : p_168 m x (Int32.ofNat c) z = q_168_21 m x (Int32.ofNat c) (if m 1082 c = z then 1 else 0 : Int32) (v_121 x) (v_125 h (Int32.ofNat c)) := by
    unfold p_168
    rw [we, if_neg e1, if_neg e1, u_ix c16 (by decide), u_cl (by omega), hand_eq]
    rfl
  by_cases e2 : v_121 x = 0
  · refine OUT_x H (id := 0) (e := 2) (v := 0) ?_ ?_ (List.mem_cons_of_mem _ (List.mem_cons_self ..))
    · unfold p_100; rw [if_neg e1, if_pos e2]
    · rw [mdl0]
      unfold q_168_21
      rw [go_2 e1 e2]
      simp only [Option.bind_some, if_true]
  by_cases e3 : m 1082 c = z
  · rw [if_pos e3] at mdl0
    obtain ⟨i, hi, rfl⟩ := hand_nat e2
    have e48 : 2 * i + 48 = 48 + 2 * i := by omega
    obtain ⟨T, h1, m1, t1, t2, t3, r1, r2, r3, r4, r5⟩ := read_both (lang := m 1081 c) (m1 := w_up m 1076 79 0) H.2.2.2.2.2.2.2.1 hi hlang ⟨funext fun o => w_up_q (by decide), funext fun o => w_up_q (by decide)⟩
    have cls : p_100 h (Int32.ofNat i) (Int32.ofNat c) z = (p_128 h1 (Int32.ofNat i) (64 * c + 52) (rdF T (m 1081 c))).bind fun vz9 => if vz9.1 = 0 then (some ((.inl (-1)), vz9.2)) else (w_let (w_up vz9.2 (64 * c + 52) 10 ((vz9.2 (64 * c + 52) 10) + 1)) fun hz11 => (p_129 hz11).bind fun vz12 => (p_130 vz12).bind fun vz13 => some ((.inl (vz13 (64 * c + 52) 10)), vz13)) := by
      unfold p_100
      rw [if_neg e1, if_neg e2]
      simp (disch := omega) only [u_ix, u_cl, w_gd, e48]
      rw [eed, if_pos e3, elang, r1]
      rfl
    have mdl2 : p_168 m (Int32.ofNat i) (Int32.ofNat c) z = q_168_37 m1 (Int32.ofNat i) (Int32.ofNat c) (if rdF T (m 1081 c) = (-1) then 1 else 0 : Int32) := by
      rw [mdl0]
      unfold q_168_21
      rw [go_0 e1 e2 no10]
      simp only [Option.bind_some, no10, if_false]
      rw [u_ix c16 (by decide), u_cl (by omega), w_up_q (by decide), r4]
      rfl
    by_cases e4 : rdF T (m 1081 c) = -1
    · rw [e4] at cls
      rw [if_pos e4] at mdl2
      obtain ⟨h2, q1, q2, q3, q4, q5, q6, q7, q8⟩ := c_128y (h := h1) (i := i) (c := c) (T := T) (s := (rdA T (m 1081 c)).2) (lang := m 1081 c) hi (tx_fr2 t1 (r3 _ (by unfold rdP; omega)) (r3 _ (by unfold rdP; omega))) r2
      have h1q : ∀ z, z ≠ 17 → ¬ (24 ≤ z ∧ z ≤ 27) → h1 z = h z := fun z a d => r3 z (by unfold rdP; omega)
      have h2q : ∀ z, z ≠ 17 → ¬ (24 ≤ z ∧ z ≤ 27) → z ≠ 48 + 2 * i → ¬ (64 * c + 52 ≤ z ∧ z ≤ 64 * c + 58) → h2 z = h z := fun z a d e f => by rw [q8 z (by omega), h1q z a d]
      generalize hh3 : w_up h2 (64 * c + 52) 10 ((h2 (64 * c + 52) 10) + 1) = h3
      have h3q : ∀ z, z ≠ 64 * c + 52 → h3 z = h2 z := fun z a => by rw [← hh3]; funext o; rw [w_up_q a]
      have h3c : ∀ o, o ≠ 10 → h3 (64 * c + 52) o = h2 (64 * c + 52) o := fun o a => by rw [← hh3, w_up_b a]
      have h310 : h3 (64 * c + 52) 10 = m 1082 c + 1 := by rw [← hh3, w_up_at, q5 10 (by decide), h1q _ (by omega) (by omega), eed]
      have h30 : h3 0 = h 0 := by rw [h3q 0 (by omega), h2q 0 (by omega) (by omega) (by omega) (by omega)]
      obtain ⟨g, w1, w2, w3, w4, w5⟩ := weave_ok (h := h3) (n := n) (nw := nw) h16 (by rw [h30]; exact H.2.1.2.1) (by rw [h3q 4 (by omega), h2q 4 (by omega) (by omega) (by omega) (by omega)]; exact H.2.1.2.2.1) h4
      have gq : ∀ z, z ≠ 0 → z ≠ 17 → ¬ (11 ≤ z ∧ z ≤ 16) → ¬ (24 ≤ z ∧ z ≤ 27) → z ≠ 48 + 2 * i → ¬ (64 * c + 52 ≤ z ∧ z ≤ 64 * c + 58) → g z = h z := fun z a a2 d d2 e f => by rw [w3 z a d, h3q z (by omega), h2q z a2 d2 e f]
      have gn : ∀ z, 64 * c + 53 ≤ z → z ≤ 64 * c + 58 → g z = h2 z := fun z a d => by rw [w3 z (by omega) (by omega), h3q z (by omega)]
      have g52 : g (64 * c + 52) = h3 (64 * c + 52) := w3 _ (by omega) (by omega)
      -- the model
      have m1q : ∀ q, q ≠ 1076 → ¬ (1127 ≤ q ∧ q ≤ 1129) → m1 q = m q := fun q a d => by
        rw [r5.1 q (by unfold flP; omega)]; exact funext fun o => w_up_q a
      have m176 : ∀ o, o ≠ 66 → o ≠ 67 → o ≠ 70 → o ≠ 79 → m1 1076 o = m 1076 o := fun o a d e f => by rw [r5.2 o a d e, w_up_b f]
      have m179 : m1 1076 79 = 0 := by rw [r5.2 79 (by decide) (by decide) (by decide), w_up_at]
      obtain ⟨m4, k1, k2, k3, k4, k5, k6, k7, k8⟩ := m_165 (m := m1) (i := i) (c := c) (T := T) (lang := m 1081 c) hi c16 t1.1 (by rw [m1q 1078 (by decide) (by decide)]; exact t2) (fun j hj => by rw [m1q 1077 (by decide) (by decide)]; exact t3 j hj) (by rw [m1q 1081 (by decide) (by decide)]) hlang e4
      have k5' : ∀ q, q ≠ 1076 → q ≠ 1079 → q ≠ 1080 → ¬ (1083 ≤ q ∧ q ≤ 1086) → q ≠ 1127 → m4 q = m1 q := fun q a d e f f2 => k5 q (by unfold tkP; omega)
      have m482 : m4 1082 c = m 1082 c := by rw [k5' 1082 (by decide) (by decide) (by decide) (by decide) (by decide), m1q 1082 (by decide) (by decide)]
      generalize hp : w_up (w_up (w_up m4 1082 c (m 1082 c + 1)) 1076 45 0) 1078 i 0 = p
      have pq : ∀ q, q ≠ 1076 → q ≠ 1078 → ¬ (1079 ≤ q ∧ q ≤ 1086) → ¬ (1127 ≤ q ∧ q ≤ 1129) → p q = m q := fun q a d e f => by
        rw [← m1q q a f, ← k5' q a (by omega) (by omega) (by omega) (by omega), ← hp]; funext o; rw [w_up_q d, w_up_q a, w_up_q (by omega)]
      have p4 : ∀ q, q ≠ 1076 → q ≠ 1078 → q ≠ 1082 → p q = m4 q := fun q a d e => by rw [← hp]; funext o; rw [w_up_q d, w_up_q a, w_up_q e]
      have p82 : p 1082 c = m 1082 c + 1 := by rw [← hp, w_up_q (by decide), w_up_q (by decide), w_up_at]
      have p82o : ∀ j, j ≠ c → p 1082 j = m 1082 j := fun j hj => by rw [← hp, w_up_q (by decide), w_up_q (by decide), w_up_b hj, k5' 1082 (by decide) (by decide) (by decide) (by decide) (by decide), m1q 1082 (by decide) (by decide)]
      have p76 : ∀ o, o ≠ 45 → o ≠ 66 → o ≠ 67 → o ≠ 70 → o ≠ 79 → p 1076 o = m 1076 o := fun o d e f f2 f3 => by
        rw [← hp, w_up_q (by decide), w_up_b d, w_up_q (by decide), k6 o e f, m176 o e f f2 f3]
      have p79 : p 1076 79 = 0 := by rw [← hp, w_up_q (by decide), w_up_b (by decide), w_up_q (by decide), k6 79 (by decide) (by decide), m179]
      have HC : CP g p n nw k (b + 20) := by
        refine take_cp (h := h) (m := m) (c := c) (T := T) (lang := m 1081 c) (B := b) H0 ⟨by omega, hb⟩ c16 (Or.inl ⟨hc, rfl⟩) (fun _ => rfl) hlang e4 w2 (gq 4 (by omega) (by omega) (by omega) (by omega) (by omega) (by omega)) (fun z a d => gq z (by omega) (by omega) (by omega) (by omega) (by omega) (by omega)) (fun o a d => by rw [w5 o (by omega), h30]) w4 (gq 40 (by omega) (by omega) (by omega) (by omega) (by omega) (by omega)) (fun j hj hne z a d e => gq z (by omega) (by omega) (by omega) (by omega) (by omega) (by omega)) (fun z a d => gq z (by omega) (by omega) (by omega) (by omega) (by omega) (by omega)) (fun o ho h15 => by rw [g52, h3c o ho, q5 o h15, h1q _ (by omega) (by omega)]) (by rw [g52, h3c 15 (by decide)]; exact q4) (tx_fr2 q2 (gn _ (by omega) (by omega)) (gn _ (by omega) (by omega))) (cd_fr q3 (gn _ (by omega) (by omega)) (gn _ (by omega) (by omega)) (gn _ (by omega) (by omega)) (gn _ (by omega) (by omega))) (fun j hj hne => ⟨fun q hq => ?_, fun q o hq ho => ?_, fun q o hq ho => ?_, fun q o hq ho => ?_, fun o ho => ?_, fun kk a d => ⟨fun _ _ => ?_, ?_, fun _ _ => ?_, fun _ _ => ?_, fun _ _ => ?_⟩⟩) (fun q a d => pq q (by omega) (by omega) (by omega) (by omega)) ?_ ?_ ?_ ?_ ?_ ?_ (fun o ho => p76 o (by omega) (by omega) (by omega) (by omega) (by omega)) ?_ ?_ ?_
        · obtain ⟨z0, z3, z4, z5, z6⟩ := k7 j hne
          by_cases a0 : q = 1082
          · subst a0; exact p82o j hne
          rw [p4 q (by omega) (by omega) a0]
          by_cases a2 : q = 1080
          · subst a2; rw [z0, m1q 1080 (by decide) (by decide)]
          by_cases a3 : q = 1083
          · subst a3; rw [z3, m1q 1083 (by decide) (by decide)]
          by_cases a4 : q = 1084
          · subst a4; rw [z4, m1q 1084 (by decide) (by decide)]
          by_cases a5 : q = 1085
          · subst a5; rw [z5, m1q 1085 (by decide) (by decide)]
          by_cases a6 : q = 1086
          · subst a6; rw [z6, m1q 1086 (by decide) (by decide)]
          · rw [k5' q (by omega) (by omega) (by omega) (by omega) (by omega), m1q q (by omega) (by omega)]
        · rw [p4 q (by omega) (by omega) (by omega)]
          by_cases a1 : q = 1079
          · subst a1; rw [k8 _ (by omega), m1q 1079 (by decide) (by decide)]
          · rw [k5' q (by omega) (by omega) (by omega) (by omega) (by omega), m1q q (by omega) (by omega)]
        · rw [pq q (by omega) (by omega) (by omega) (by omega)]
        · rw [pq q (by omega) (by omega) (by omega) (by omega)]
        · rw [pq 1091 (by omega) (by omega) (by omega) (by omega)]
        · rw [pq 1101 (by omega) (by omega) (by omega) (by omega)]
        · rw [pq 1102 (by omega) (by omega) (by omega) (by omega)]
        · rw [pq 1103 (by omega) (by omega) (by omega) (by omega)]
        · rw [pq 1104 (by omega) (by omega) (by omega) (by omega)]
        · rw [pq 1105 (by omega) (by omega) (by omega) (by omega)]
        · rw [p4 1081 (by decide) (by decide) (by decide), k5' 1081 (by decide) (by decide) (by decide) (by decide) (by decide), m1q 1081 (by decide) (by decide)]
        · exact ⟨k2.1, by rw [p4 1080 (by decide) (by decide) (by decide)]; exact k2.2.1, fun j hj => by rw [p4 1079 (by decide) (by decide) (by decide)]; exact k2.2.2 j hj⟩
        · exact ⟨by rw [p4 1083 (by decide) (by decide) (by decide)]; exact k3.1, by rw [p4 1084 (by decide) (by decide) (by decide)]; exact k3.2.1, by rw [p4 1085 (by decide) (by decide) (by decide)]; exact k3.2.2⟩
        · rw [p4 1086 (by decide) (by decide) (by decide)]; exact k4
        · rw [p76 2 (by decide) (by decide) (by decide) (by decide) (by decide)]; exact H.2.2.1.2.2.1
        · rw [← hp, w_up_q (by decide), w_up_at]
        · rw [g52, h310, p82]
        · rw [if_pos hc, p82]
        · refine TY_clear H.2.2.2.2.2.2.2.1 hi ?_ (fun z a d e f => gq z (by omega) (by omega) (by omega) (by omega) e (by omega)) (by rw [← hp, w_up_at]) (fun j hj => ?_) ?_
          · rw [w3 _ (by omega) (by omega), h3q _ (by omega)]; exact q6
          · rw [← hp, w_up_b hj, w_up_q (by decide), w_up_q (by decide), k5' 1078 (by decide) (by decide) (by decide) (by decide) (by decide), m1q 1078 (by decide) (by decide)]
          · rw [p4 1077 (by decide) (by decide) (by decide), k5' 1077 (by decide) (by decide) (by decide) (by decide) (by decide), m1q 1077 (by decide) (by decide)]
      obtain ⟨h5, m5, k5_, z1, z2, H5, z4, R5⟩ := at_once HC (by omega)
      have ev : h5 (64 * c + 52) 10 = m5 1082 c := (H5.2.2.2.2.2.2.2.2.1 c c16).2.2.1.1
      refine ⟨.inl (h5 (64 * c + 52) 10), h5, m5 1082 c, m5, ?_, ?_, ⟨n, nw, k5_, H5⟩, EF_trans ⟨fun z hz => gq z (by omega) (by omega) (by omega) (by omega) (by omega) (by omega), fun q hq => pq q (by omega) (by omega) (by omega) (by omega)⟩ (EF_RN R5), Or.inl ⟨by rw [ev], by rw [R5.2.2.1]; exact p79⟩⟩
      · rw [cls, q1]
        simp only [Option.bind_some, no10, if_false, w_let]
        rw [hh3, w1]
        simp only [Option.bind_some]
        rw [z1]
        rfl
      · rw [mdl2]
        unfold q_168_37
        rw [if_neg no10, k1]
        simp only [Option.bind_some]
        simp (disch := omega) only [u_ix, u_cl, w_gd, w_let]
        rw [m482]
        unfold q_168_55
        simp (disch := omega) only [u_ix, u_cl, w_gd, w_let]
        rw [hp, if_neg no10, z2]
        simp only [Option.bind_some]
        unfold q_168_64
        rw [if_neg no10, if_neg no10, u_ix c16 (by decide), u_cl (by omega)]
        rfl
    · rw [c_128n hi e4] at cls
      rw [if_neg e4] at mdl2
      obtain ⟨G1, G2, G3⟩ := gone_cp H hi r3 r5
      refine ⟨.inl (-1), _, -1, _, cls, ?_, ⟨n, nw, k, G1⟩, G2, Or.inl ⟨rfl, G3⟩⟩
      rw [mdl2]
      unfold q_168_37
      rw [if_pos rfl]
      unfold q_168_55
      simp (disch := omega) only [u_ix, u_cl, w_gd, w_let]
      rw [if_pos trivial]
      unfold q_168_64
      rw [if_pos rfl, if_pos rfl]
      rfl
  · rw [if_neg e3] at mdl0
    refine OUT_x H (id := 1) (e := 3) (v := 0) ?_ ?_ (List.mem_cons_of_mem _ (List.mem_cons_of_mem _ (List.mem_singleton.mpr rfl)))
    · unfold p_100
      rw [if_neg e1, if_neg e2, u_ix c16 (by decide), u_cl (by omega), eed, if_neg e3]
      rfl
    · rw [mdl0]
      unfold q_168_21
      rw [go_3 e1 e2 rfl]
      simp only [Option.bind_some, if_true]
end SB7
