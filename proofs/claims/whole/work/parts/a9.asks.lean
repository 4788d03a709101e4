/-! ===== the calls that ask: run, result, error ===== -/
section SA9
variable {h h' h1 m m' m1 : Hp} {n nw k B b c : Nat} {T : List Int32} {lang us x y z : Int32} {s : Nat → Int32}
theorem m1_ne {i : Nat} (hi : i < 2147483648) : ¬ Int32.ofNat i = -1 := by
  intro e
  have := congrArg Int32.toInt e
  rw [u_toInt hi] at this
  have h1 : (-1 : Int32).toInt = -1 := by decide
  omega
theorem m2_ne {i : Nat} (hi : i < 2147483648) : ¬ Int32.ofNat i = -2 := by
  intro e
  have := congrArg Int32.toInt e
  rw [u_toInt hi] at this
  have h1 : (-2 : Int32).toInt = -2 := by decide
  omega
/-- whether there is such an item, and which: class and model -/
theorem items {q r o i : Nat} {v : Option VL} (hi : i < 27) (H1 : cv h q i v) (H2 : mv m r o v) (hr : o + 9 ≤ w_len r) (hb : w_len r ≤ 100000) : v_75 h q (Int32.ofNat i) y = v_236 m r (Int32.ofNat o) y ∧ g_75 h q (Int32.ofNat i) y = true ∧ g_236 r (Int32.ofNat o) y = true ∧ (¬ v_75 h q (Int32.ofNat i) y = 0 → v_76 h q (Int32.ofNat i) y = v_237 m r (Int32.ofNat o) y ∧ g_76 h q (Int32.ofNat i) y = true ∧ g_237 m r (Int32.ofNat o) y = true) := by
  obtain ⟨a63, b63⟩ := c_63 (h := h) (q := q) hi
  obtain ⟨a64, b64⟩ := c_64 hi H1
  obtain ⟨a65, b65⟩ := c_65 hi H1
  obtain ⟨t1, t2⟩ := cv_tag H1
  have ecl : (Int32.ofNat o).toNatClampNeg = o := u_cl (by omega)
  have eix : w_ix (Int32.ofNat o) (w_len r) = true := u_ix (by omega) (by omega)
  have eix1 : w_ix (Int32.ofNat (o + 1)) (w_len r) = true := u_ix (by omega) (by omega)
  have e66 : ∀ j, j < 8 → v_66 h q (Int32.ofNat i) (Int32.ofNat j) = h (q + 2) (i * 8 + j) ∧ g_66 q (Int32.ofNat i) (Int32.ofNat j) = true := fun j hj => c_66 hi hj
  have z66 := e66 0 (by decide)
  have z66' : v_66 h q (Int32.ofNat i) 0 = h (q + 2) (i * 8 + 0) ∧ g_66 q (Int32.ofNat i) 0 = true := z66
  unfold v_75 g_75 v_236 g_236 v_76 g_76 v_237 g_237
  rw [a63, b63, a64, b64, a65, b65, ecl, eix, u_S, u_cl (by omega), eix1]
  by_cases e1 : y = -1
  · subst e1
    have lt0 : (-1 : Int32) < 0 := by decide
    simp only [if_true, if_pos lt0]
    rw [z66'.1, z66'.2, t1]
    cases v with
    | none =>
      have hm : m r o = -2 := H2
      rw [hm]
      exact ⟨by rfl, by trivial, by trivial, fun hh => absurd (by rfl) hh⟩
    | some v =>
      cases v with
      | inl a =>
        obtain ⟨hm1, hm2⟩ := H2
        obtain ⟨hc1, hc2⟩ := H1
        rw [hm1, hm2]
        refine ⟨by rfl, by trivial, by trivial, fun _ => ⟨?_, ?_, ?_⟩⟩
        · rw [if_neg (show ¬ ofB (vNum (some (.inl a))) = 0 from (by decide : ¬ ofB true = 0))]; exact hc2
        · rw [if_neg (show ¬ ofB (vNum (some (.inl a))) = 0 from (by decide : ¬ ofB true = 0))]; trivial
        · trivial
      | inr l =>
        obtain ⟨hl, hm1, hm2⟩ := H2
        rw [hm1]
        have n0 : ¬ Int32.ofNat (vTag (some (.inr l))) = 0 := by
          show ¬ Int32.ofNat (l.length + 2) = 0
          rw [show (0 : Int32) = Int32.ofNat 0 from rfl, u_inj (by omega) (by decide)]
          omega
        rw [if_neg n0, if_neg (m2_ne (by omega)), if_neg (m1_ne (by omega)), if_neg (m1_ne (by omega))]
        refine ⟨by rfl, by trivial, by trivial, fun _ => ⟨?_, ?_, ?_⟩⟩
        · rfl
        · first | rfl | trivial
        · first | rfl | trivial
  · simp only [if_neg e1]
    by_cases e2 : y < 0
    · simp only [if_pos e2]
      exact ⟨trivial, trivial, trivial, fun hh => absurd trivial hh⟩
    · simp only [if_neg e2]
      obtain ⟨ey, hl⟩ := u_nat e2
      generalize y.toNatClampNeg = j at ey hl
      subst ey
      have none_ : ∀ w : Int32, (w = -1 ∨ w = -2) → ¬ Int32.ofNat j < w := by
        intro w hw hh
        rw [Int32.lt_iff_toInt_lt, u_toInt hl] at hh
        rcases hw with rfl | rfl
        · have h1 : (-1 : Int32).toInt = -1 := by decide
          omega
        · have h1 : (-2 : Int32).toInt = -2 := by decide
          omega
      cases v with
      | none =>
        have hm : m r o = -2 := H2
        rw [hm, if_neg (none_ _ (Or.inr rfl)), if_neg (show ¬ Int32.ofNat j < Int32.ofNat (vLen none) from fun hh => absurd ((u_lt hl (by decide)).mp hh) (by show ¬ j < 0; omega))]
        exact ⟨by rfl, by trivial, by trivial, fun hh => absurd (by rfl) hh⟩
      | some v =>
        cases v with
        | inl a =>
          rw [H2.1, if_neg (none_ _ (Or.inl rfl)), if_neg (show ¬ Int32.ofNat j < Int32.ofNat (vLen (some (.inl a))) from fun hh => absurd ((u_lt hl (show 0 < 2147483648 by decide)).mp hh) (by omega))]
          exact ⟨by rfl, by trivial, by trivial, fun hh => absurd (by rfl) hh⟩
        | inr l =>
          obtain ⟨hl8, hm1, hm2⟩ := H2
          obtain ⟨-, -, hc2⟩ := H1
          rw [hm1]
          show (if Int32.ofNat j < Int32.ofNat l.length then (1 : Int32) else 0) = _ ∧ _ ∧ _ ∧ (¬ (if Int32.ofNat j < Int32.ofNat l.length then (1 : Int32) else 0) = 0 → _)
          by_cases hj : j < l.length
          · have hlt : Int32.ofNat j < Int32.ofNat l.length := (u_lt hl (by omega)).mpr hj
            rw [if_pos hlt]
            obtain ⟨z1, z2⟩ := e66 j (by omega)
            refine ⟨by rfl, by trivial, by trivial, fun _ => ⟨?_, z2, ?_⟩⟩
            · rw [z1, hc2 j hj, u_add, u_cl (by omega), hm2 j hj]
            · rw [u_add]; exact u_ix (by omega) (by omega)
          · have hlt : ¬ Int32.ofNat j < Int32.ofNat l.length := fun hh => hj ((u_lt hl (by omega)).mp hh)
            rw [if_neg hlt]
            exact ⟨by rfl, by trivial, by trivial, fun hh => absurd (by rfl) hh⟩
/-- run -/
theorem call_10 (H : CI b h m) (hb : b + 20 ≤ 1000000) : OUT b h m (p_107 h x) (p_226 m x) [(2, 1), (1, 2)] := by
  obtain ⟨n, nw, k, hk, H⟩ := CI_up H hb
  have we := cell_eq (x := x) H
  obtain ⟨m1, q1, g1, L1, t1, H1⟩ := cp_looks H
  have RL : RN n nw h m h m1 := RN_lk g1
  by_cases e : v_125 h x = 0
  · refine ⟨.inr 2, h, 0, w_up m1 1076 79 1, ?_, ?_, ⟨n, nw, k, CP_79 H1⟩, EF_trans (EF_RN RL) EF_76, Or.inr ⟨2, 1, List.mem_cons_self .., rfl, w_up_at⟩⟩
    · unfold p_107; rw [if_pos e]
    · unfold p_226
      rw [q1]
      simp only [Option.bind_some]
      rw [we, if_pos e, if_pos e]
      simp only [w_gd]
      unfold q_226_19
      rw [go_1 e]
      simp only [Option.bind_some, if_true]
  · obtain ⟨c, hc, rfl⟩ := cell_nat H e
    have h16 := H.2.1.1
    obtain ⟨h1, p1, f1, s1, H1'⟩ := cp_judge H1
    have RJ : RN n nw h m1 h1 m1 := RN_st f1
    have e1 : h1 3 c = m1 1122 c := st_unique s1 t1 c hc
    have cls : p_107 h (Int32.ofNat c) = if h1 3 c < 3 then (p_138 h1 (Int32.ofNat c)).bind (fun vz4 => some (.inl vz4.1, vz4.2)) else some (.inr 1, h1) := by
      unfold p_107
      rw [if_neg e, e131 (by omega) p1]
      rfl
    have mdl : p_226 m (Int32.ofNat c) = q_226_19 m1 (Int32.ofNat c) (if m1 1122 c < 3 then 1 else 0 : Int32) (v_125 h (Int32.ofNat c)) := by
      unfold p_226
      rw [q1]
      simp only [Option.bind_some]
      rw [we, if_neg e, if_neg e, u_ix (by omega) (by decide), u_cl (by omega)]
      rfl
    by_cases h3 : h1 3 c < 3
    · rw [if_pos h3] at cls
      rw [← e1, if_pos h3] at mdl
      obtain ⟨r, h2, m2, k2, w1, w2, w3, w4, w5⟩ := with_both (CP_79 (x := 0) H1') (s := h1 3) (by rw [RN_ndc RJ, RJ.2.2.2.2, own_st f1]; exact s1) hc h3 (by omega)
      refine ⟨.inl r, h2, r, m2, by rw [cls, w1]; rfl, ?_, ⟨n, nw, k2, w3⟩, EF_trans (EF_RN RL) (EF_trans (EF_RN RJ) (EF_trans EF_76 (EF_RN w5))), Or.inl ⟨rfl, by rw [w5.2.2.1]; exact w_up_at⟩⟩
      rw [mdl]
      unfold q_226_19
      rw [go_0 e no10 no10]
      simp only [Option.bind_some, no10, if_false]
      rw [w2]
      rfl
    · rw [if_neg h3] at cls
      rw [← e1, if_neg h3] at mdl
      refine ⟨.inr 1, h1, 0, w_up m1 1076 79 2, cls, ?_, ⟨n, nw, k, CP_79 H1'⟩, EF_trans (EF_RN RL) (EF_trans (EF_RN RJ) EF_76), Or.inr ⟨1, 2, List.mem_cons_of_mem _ (List.mem_singleton.mpr rfl), rfl, w_up_at⟩⟩
      rw [mdl]
      unfold q_226_19
      rw [go_2 e rfl]
      simp only [Option.bind_some, if_true]
/-- the error of a cell -/
theorem own2 (h0 : own h n nw c = 2) : ¬ h (64 * c + 52) 15 = 0 ∧ ¬ h (64 * c + 52) 11 = 0 := by
  unfold own at h0
  split at h0
  · exact absurd h0 (by decide)
  split at h0
  · rename_i h2
    split at h0
    · exact absurd h0 (by decide)
    · rename_i h3
      refine ⟨fun e => ?_, h3⟩
      unfold asT at h2
      rw [e] at h2
      exact absurd h2 (by simp)
  · exact absurd h0 (by decide)
theorem st2 {nd : Nat → Nat → Bool} {tw : Nat → Bool} {ow : Nat → Int32} (hs : isSt n nd tw ow s) (hc : c < n) (h0 : s c = 2) : ow c = 2 := by
  have e := hs c hc
  rw [h0] at e
  unfold stp at e
  split at e
  · exact absurd e (by decide)
  split at e
  · exact absurd e (by decide)
  split at e
  · exact absurd e (by decide)
  split at e
  · exact absurd e (by decide)
  · exact e.symm
theorem call_20 (H : CI b h m) (hb : b + 20 ≤ 1000000) : OUT b h m (p_117 h x) (p_243 m x) [(2, 1)] := by
  obtain ⟨n, nw, k, hk, H⟩ := CI_up H hb
  have we := cell_eq (x := x) H
  by_cases e : v_125 h x = 0
  · refine OUT_x H (id := 2) (e := 1) (v := 0) ?_ ?_ (List.mem_singleton.mpr rfl)
    · unfold p_117; rw [if_pos e]
    · unfold p_243
      rw [we, go_1 e]
      simp only [Option.bind_some, if_true]
  · obtain ⟨c, hc, rfl⟩ := cell_nat H e
    have h16 := H.2.1.1
    obtain ⟨h2, m2, k2, H2, hk2, a1, L2, s2, R2, a2⟩ := ask_both (CP_79 (x := 0) H) hc (by omega)
    obtain ⟨h3, p3, f3, s3, H3⟩ := cp_judge H2
    have RJ : RN n nw h2 m2 h3 m2 := RN_st f3
    have e1 : h3 3 c = m2 1122 c := st_unique s3 s2 c hc
    have e52 : h3 (64 * c + 52) = h2 (64 * c + 52) := f3 _ (by unfold stP; omega)
    have cls : p_117 h (Int32.ofNat c) = some ((.inl (if h3 3 c = 2 then ((100 * (h3 (64 * c + 52) 11)) + (h3 (64 * c + 52) 12)) else 0 : Int32)), h3) := by
      unfold p_117
      rw [if_neg e]
      rw [a2 _ (fun g => q_117_13 g (Int32.ofNat c))]
      unfold q_117_13
      rw [e131 (by omega) p3]
      simp only [Option.bind_some]
      rw [u_ix (by omega) (by decide), u_cl (by omega)]
      by_cases h2 : h3 3 c = 2
      · rw [if_pos h2]; rfl
      · rw [if_neg h2]; rfl
    have mdl : p_243 m (Int32.ofNat c) = some ((if m2 1122 c = 2 then (m2 1092 c) else 0 : Int32), m2) := by
      unfold p_243
      rw [we, go_0 e no10 no10]
      simp only [Option.bind_some, no10, if_false]
      rw [a1]
      simp only [Option.bind_some]
      rw [u_ix (by omega) (by decide), u_cl (by omega)]
      by_cases h2 : m2 1122 c = 2
      · rw [if_pos h2]; rfl
      · rw [if_neg h2]; rfl
    have ev : (if h3 3 c = 2 then ((100 * (h3 (64 * c + 52) 11)) + (h3 (64 * c + 52) 12)) else 0 : Int32) = (if m2 1122 c = 2 then (m2 1092 c) else 0 : Int32) := by
      rw [e1]
      by_cases h2' : m2 1122 c = 2
      · rw [if_pos h2', if_pos h2', e52]
        obtain ⟨o1, o2⟩ := own2 (st2 s2 hc h2')
        obtain ⟨T, C, O⟩ := H2.2.2.2.2.2.2.2.2.2.1 c hc
        exact ((O o1).2 o2).symm
      · rw [if_neg h2', if_neg h2']
    refine ⟨_, h3, _, m2, cls, mdl, ⟨n, nw, k2, H3⟩, EF_trans EF_76 (EF_trans (EF_RN R2) (EF_RN RJ)), Or.inl ⟨by rw [ev], by rw [R2.2.2.1]; exact w_up_at⟩⟩
theorem call_17 (H : CI b h m) (hb : b + 20 ≤ 1000000) : OUT b h m (p_114 h x y) (p_238 m x y) [(2, 1), (1, 2)] := by
  obtain ⟨n, nw, k, hk, H⟩ := CI_up H hb
  have we := cell_eq (x := x) H
  by_cases e : v_125 h x = 0
  · refine OUT_x H (id := 2) (e := 1) (v := 0) ?_ ?_ (List.mem_cons_self ..)
    · unfold p_114; rw [if_pos e]
    · unfold p_238
      rw [we, if_pos e]
      unfold q_238_9
      rw [if_pos e, if_pos e]
      simp only [w_gd]
      unfold q_238_27
      rw [go_1 e]
      simp only [Option.bind_some, if_true, w_gd]
  · obtain ⟨c, hc, rfl⟩ := cell_nat H e
    have h16 := H.2.1.1
    obtain ⟨h2, m2, k2, H2, hk2, a1, L2, s2, R2, a2⟩ := ask_both H hc (by omega)
    obtain ⟨h3, p3, f3, s3, H3⟩ := cp_judge H2
    have RJ : RN n nw h2 m2 h3 m2 := RN_st f3
    have e1 : h3 3 c = m2 1122 c := st_unique s3 s2 c hc
    have l1094 : w_len 1094 = 144 := by decide +kernel
    have cls : p_114 h (Int32.ofNat c) y = if h3 3 c = 0 then
    (w_gd (g_75 h3 (64 * c + 59) (Int32.ofNat 26) y) <|
    if (v_75 h3 (64 * c + 59) (Int32.ofNat 26) y) = 0 then
      (some ((.inr 1), h3))
    else
      (w_gd (g_76 h3 (64 * c + 59) (Int32.ofNat 26) y) <|
      some ((.inl (v_76 h3 (64 * c + 59) (Int32.ofNat 26) y)), h3))) else some ((.inr 1), h3) := by
      unfold p_114
      rw [if_neg e]
      rw [a2 _ (fun g => q_114_13 g (Int32.ofNat c) y)]
      unfold q_114_13
      rw [e131 (by omega) p3]
      simp only [Option.bind_some]
      rw [u_ix (by omega) (by decide), u_cl (by omega)]
      rfl
    have mdl0 : p_238 m (Int32.ofNat c) y = q_238_9 m2 (Int32.ofNat c) y (v_125 h (Int32.ofNat c)) := by
      unfold p_238
      rw [we, if_neg e, a1]
      rfl
    by_cases h0 : h3 3 c = 0
    · have o0 := st0 s2 hc (by rw [← e1]; exact h0)
      obtain ⟨o1, o2⟩ := own0 o0.1
      obtain ⟨T, C, O⟩ := H2.2.2.2.2.2.2.2.2.2.1 c hc
      obtain ⟨-, V, g1, g2, g3, g4⟩ := (O o1).1 o2
      have v1 : cv h3 (64 * c + 59) 26 (V 26) := cv_fr (g1 26 (by decide)) (f3 _ (by unfold stP; omega)) (f3 _ (by unfold stP; omega))
      obtain ⟨i1, i2, i3, i4⟩ := items (h := h3) (m := m2) (q := 64 * c + 59) (r := 1094) (o := 9 * c) (i := 26) (v := V 26) (y := y) (by decide) v1 g3 (by rw [l1094]; omega) (by rw [l1094]; decide)
      rw [if_pos h0, i2] at cls
      have mdl : p_238 m (Int32.ofNat c) y = q_238_27 m2 (Int32.ofNat c) y (v_125 h (Int32.ofNat c)) (if (v_236 m2 1094 (Int32.ofNat (9 * c)) y) = 0 then 0 else 1 : Int32) := by
        rw [mdl0]
        unfold q_238_9
        rw [if_neg e, if_neg e, u_ix (by omega) (by decide), u_cl (by omega), ← e1, if_pos h0, if_pos h0, show (9 : Int32) * Int32.ofNat c = Int32.ofNat (9 * c) from u_Lmul c 9, i3]
        rfl
      by_cases hv : v_75 h3 (64 * c + 59) (Int32.ofNat 26) y = 0
      · refine ⟨.inr 1, h3, 0, w_up m2 1076 79 2, ?_, ?_, ⟨n, nw, k2, CP_79 H3⟩, EF_trans (EF_RN R2) (EF_trans (EF_RN RJ) EF_76), Or.inr ⟨1, 2, List.mem_cons_of_mem _ (List.mem_singleton.mpr rfl), rfl, w_up_at⟩⟩
        · rw [cls]; simp only [w_gd]; rw [if_pos hv]
        · rw [mdl, ← i1, if_pos hv]
          unfold q_238_27
          rw [go_2 e rfl]
          simp only [Option.bind_some, if_true, w_gd]
      · obtain ⟨j1, j2, j3⟩ := i4 hv
        refine ⟨.inl (v_76 h3 (64 * c + 59) (Int32.ofNat 26) y), h3, v_76 h3 (64 * c + 59) (Int32.ofNat 26) y, w_up m2 1076 79 0, ?_, ?_, ⟨n, nw, k2, CP_79 H3⟩, EF_trans (EF_RN R2) (EF_trans (EF_RN RJ) EF_76), Or.inl ⟨rfl, w_up_at⟩⟩
        · rw [cls]; simp only [w_gd]; rw [if_neg hv, j2]
        · rw [mdl, ← i1, if_neg hv]
          unfold q_238_27
          rw [go_0 e no10 no10]
          simp only [Option.bind_some, no10, if_false]
          rw [show (9 : Int32) * Int32.ofNat c = Int32.ofNat (9 * c) from u_Lmul c 9]
          have z1 : g_237 (w_up m2 1076 79 0) 1094 (Int32.ofNat (9 * c)) y = g_237 m2 1094 (Int32.ofNat (9 * c)) y := by
            unfold g_237; rw [w_up_q (by decide)]
          have z2 : v_237 (w_up m2 1076 79 0) 1094 (Int32.ofNat (9 * c)) y = v_237 m2 1094 (Int32.ofNat (9 * c)) y := by
            unfold v_237; simp only [w_up_q (show (1094 : Nat) ≠ 1076 by decide)]
          rw [z1, j3, z2, j1]
          rfl
    · rw [if_neg h0] at cls
      refine ⟨.inr 1, h3, 0, w_up m2 1076 79 2, cls, ?_, ⟨n, nw, k2, CP_79 H3⟩, EF_trans (EF_RN R2) (EF_trans (EF_RN RJ) EF_76), Or.inr ⟨1, 2, List.mem_cons_of_mem _ (List.mem_singleton.mpr rfl), rfl, w_up_at⟩⟩
      rw [mdl0]
      unfold q_238_9
      rw [if_neg e, if_neg e, u_ix (by omega) (by decide), u_cl (by omega), ← e1, if_neg h0, if_neg h0]
      simp only [Bool.and_self, w_gd]
      unfold q_238_27
      rw [go_2 e rfl]
      simp only [Option.bind_some, if_true, w_gd]
end SA9
