/-! ===== value ===== -/
section SB1
variable {h h' h1 m m' m1 : Hp} {n nw k B b c : Nat} {T : List Int32} {lang us x y z : Int32} {s : Nat → Int32}
theorem cnt_one {f : Nat → Bool} {i : Nat} (hf : ∀ j, f j = decide (j = i)) : ∀ n, cnt f n = if i < n then 1 else 0 := by
  intro n
  induction n with
  | zero => rfl
  | succ n ih =>
    simp only [cnt]
    rw [ih, hf n]
    by_cases e : n = i
    · subst e
      simp
    · by_cases h1 : i < n
      · simp [e, h1, show i < n + 1 by omega]
      · simp [e, h1, show ¬ i < n + 1 by omega]
theorem lst_one {f : Nat → Bool} {i : Nat} (hf : ∀ j, f j = decide (j = i)) : ∀ n, i < n → lst f n = some i := by
  intro n
  induction n with
  | zero => intro h; omega
  | succ n ih =>
    intro h
    simp only [lst]
    rw [hf n]
    by_cases e : n = i
    · subst e; simp
    · rw [decide_eq_false e, ih (by omega)]; rfl
/-- who leaves the name in the end -/
theorem c_82 (J : JOK h n nw) {l : Nat} (hl : l < 26) : p_82 h (Int32.ofNat l) = some (if cnt (dfh h n nw l) 32 = 1 then (match lst (fun k => bt (h (64 * k + 55) 6) l) n with
    | some k => Int32.ofNat k
    | none => oi (lst (dfh h n nw l) 20)) else -1) := by
  have h16 := J.1
  have w := J.2.2.2.2.2.1 l hl
  have e1 : cnt (bt (h 12 l)) 32 = cnt (dfh h n nw l) 32 := cnt_congr 32 (fun j _ => w.1 j)
  have e2 : lst (bt (h 12 l)) 20 = lst (dfh h n nw l) 20 := lst_congr 20 (fun j _ => w.1 j)
  have e3 : lst (bt (h 13 l)) 20 = lst (fun k => bt (h (64 * k + 55) 6) l) n := by
    rw [lst_congr 20 (fun j _ => w.2 j), lst_ext (f := chh h n l) (n := n) 20 (by omega) (fun i a _ => by unfold chh; rw [decide_eq_false (by omega)]; rfl)]
    exact lst_congr n (fun j hj => by unfold chh; rw [decide_eq_true hj]; rfl)
  have hlt : Int32.ofNat l < 26 := (u_ltL (by omega) (by decide)).mpr hl
  unfold p_82
  rw [if_neg (u_lt0 (by omega)), if_pos hlt]
  simp (disch := omega) only [u_ix, u_cl, w_gd]
  rw [s_267, e1]
  simp only [Option.bind_some]
  by_cases h1 : cnt (dfh h n nw l) 32 = 1
  · rw [if_pos h1, h1, if_pos (show Int32.ofNat 1 = 1 from rfl), s_127, e3]
    simp only [Option.bind_some]
    cases hls : lst (fun k => bt (h (64 * k + 55) 6) l) n with
    | none =>
      rw [if_pos (show oi none = -1 from rfl), s_127, e2]
      rfl
    | some i =>
      have := (lst_lt n hls).1
      rw [if_neg (show ¬ oi (some i) = -1 from m1_ne (by omega))]
      rfl
  · have hc := cnt_le (dfh h n nw l) 32
    rw [if_neg h1, if_neg (show ¬ Int32.ofNat (cnt (dfh h n nw l) 32) = 1 from fun e => h1 ((u_eqL (n := 1) (by omega) (by decide)).mp e))]
theorem sub97 {l : Nat} : Int32.ofNat (97 + l) - 97 = Int32.ofNat l := by
  have e := u_subL (a := 97 + l) (n := 97) (by omega)
  rw [Nat.add_sub_cancel_left] at e
  exact e
theorem let_eq {x : Int32} : v_148 x = v_123 x := rfl
/-- a cell gives it -/
theorem val_cell (H : CP h m n nw k B) (hB : k + 17 ≤ B) {g l : Nat} (hg : g < n) (hl : l < 26) : ∃ r h' v m' k', ((p_134 h (Int32.ofNat g)).bind fun vz12 => if vz12.1 = 0 then (q_116_25 vz12.2 y (Int32.ofNat l) (Int32.ofNat g)) else ((p_138 vz12.2 (Int32.ofNat g)).bind fun vz14 => q_116_25 vz14.2 y (Int32.ofNat l) (Int32.ofNat g))) = some (r, h') ∧ q_242_29 m (Int32.ofNat (97 + l)) y (Int32.ofNat g) = some (v, m') ∧ CP h' m' n nw k' B ∧ EF h m h' m' ∧ ((r = .inl v ∧ m' 1076 79 = 0) ∨ (r = .inr 1 ∧ m' 1076 79 = 2)) := by
  have h16 := H.2.1.1
  obtain ⟨h2, m2, k2, H2, hk2, a1, L2, s2, R2, a2⟩ := ask_both H hg hB
  obtain ⟨h3, p3, f3, s3, H3⟩ := cp_judge H2
  have RJ : RN n nw h2 m2 h3 m2 := RN_st f3
  have e1 : h3 3 g = m2 1122 g := st_unique s3 s2 g hg
  have l1093 : w_len 1093 = 3744 := by decide +kernel
  have v2 : ¬ v_125 h2 (Int32.ofNat g) = 0 := by
    unfold v_125
    rw [if_neg (u_lt0 (by omega)), H2.2.1.2.1, if_pos ((u_lt (by omega) (by omega)).mpr hg)]; decide
  have v3 : ¬ v_125 h3 (Int32.ofNat g) = 0 := by
    unfold v_125
    rw [if_neg (u_lt0 (by omega)), H3.2.1.2.1, if_pos ((u_lt (by omega) (by omega)).mpr hg)]; decide
  have cls0 := a2 _ (fun z => q_116_25 z y (Int32.ofNat l) (Int32.ofNat g))
  rw [cls0]
  have p143 : p_143 h2 (Int32.ofNat g) (Int32.ofNat l) y = (w_gd ((if h3 3 g = 0 then (g_75 h3 (64 * g + 59) (Int32.ofNat l) y) else true)) <| some ((if h3 3 g = 0 then (if (v_75 h3 (64 * g + 59) (Int32.ofNat l) y) = 0 then 0 else 1 : Int32) else 0 : Int32), h3)) := by
    unfold p_143
    rw [if_neg v2, e131 (by omega) p3]
    simp only [Option.bind_some]
    rw [u_ix (by omega) (by decide), u_cl (by omega), Bool.true_and]
  have o_eq : (234 : Int32) * Int32.ofNat g + 9 * (Int32.ofNat (97 + l) - 97) = Int32.ofNat (234 * g + 9 * l) := by
    rw [sub97, show (234 : Int32) * Int32.ofNat g = Int32.ofNat (234 * g) from u_Lmul g 234, show (9 : Int32) * Int32.ofNat l = Int32.ofNat (9 * l) from u_Lmul l 9, u_add]
  have mdl : q_242_29 m (Int32.ofNat (97 + l)) y (Int32.ofNat g) = q_242_71 m2 y (Int32.ofNat g) (Int32.ofNat (234 * g + 9 * l)) := by
    unfold q_242_29
    have hlt : Int32.ofNat g < 16 := (u_ltL (n := 16) (by omega) (by decide)).mpr (by omega)
    rw [if_pos hlt, if_neg (u_lt0 (by omega)), a1]
    simp only [Option.bind_some]
    unfold q_242_58
    rw [if_neg (u_lt0 (by omega)), o_eq]
  have fail : ∀ (hz : q_116_25 h2 y (Int32.ofNat l) (Int32.ofNat g) = some (.inr 1, h3)) (hm : q_242_71 m2 y (Int32.ofNat g) (Int32.ofNat (234 * g + 9 * l)) = q_242_88 m2 y (Int32.ofNat (234 * g + 9 * l)) 0), ∃ r h' v m' k', q_116_25 h2 y (Int32.ofNat l) (Int32.ofNat g) = some (r, h') ∧ q_242_29 m (Int32.ofNat (97 + l)) y (Int32.ofNat g) = some (v, m') ∧ CP h' m' n nw k' B ∧ EF h m h' m' ∧ ((r = .inl v ∧ m' 1076 79 = 0) ∨ (r = .inr 1 ∧ m' 1076 79 = 2)) := by
    intro hz hm
    refine ⟨.inr 1, h3, 0, w_up m2 1076 79 2, k2, hz, ?_, CP_79 H3, EF_trans (EF_RN R2) (EF_trans (EF_RN RJ) EF_76), Or.inr ⟨rfl, w_up_at⟩⟩
    rw [mdl, hm]
    unfold q_242_88
    rw [go_2 no10 rfl]
    simp only [Option.bind_some, if_true, w_gd]
  by_cases h0 : h3 3 g = 0
  · have o0 := st0 s2 hg (by rw [← e1]; exact h0)
    obtain ⟨o1, o2⟩ := own0 o0.1
    obtain ⟨T, C, O⟩ := H2.2.2.2.2.2.2.2.2.2.1 g hg
    obtain ⟨-, V, g1, g2, g3, g4⟩ := (O o1).1 o2
    have w1 : cv h3 (64 * g + 59) l (V l) := cv_fr (g1 l (by omega)) (f3 _ (by unfold stP; omega)) (f3 _ (by unfold stP; omega))
    obtain ⟨i1, i2, i3, i4⟩ := items (h := h3) (m := m2) (q := 64 * g + 59) (r := 1093) (o := 234 * g + 9 * l) (i := l) (v := V l) (y := y) (by omega) w1 (g2 l hl) (by rw [l1093]; omega) (by rw [l1093]; decide)
    rw [if_pos h0, if_pos h0, i2] at p143
    have m71 : q_242_71 m2 y (Int32.ofNat g) (Int32.ofNat (234 * g + 9 * l)) = q_242_88 m2 y (Int32.ofNat (234 * g + 9 * l)) (if (v_236 m2 1093 (Int32.ofNat (234 * g + 9 * l)) y) = 0 then 0 else 1 : Int32) := by
      unfold q_242_71
      rw [if_neg (u_lt0 (by omega)), if_neg (u_lt0 (by omega)), u_ix (by omega) (by decide), u_cl (by omega), ← e1, if_pos h0, if_pos h0, i3]
      rfl
    by_cases hv : v_75 h3 (64 * g + 59) (Int32.ofNat l) y = 0
    · refine fail ?_ ?_
      · unfold q_116_25
        rw [p143, if_pos hv]
        rfl
      · rw [m71, ← i1, if_pos hv]
    · obtain ⟨j1, j2, j3⟩ := i4 hv
      refine ⟨.inl (v_76 h3 (64 * g + 59) (Int32.ofNat l) y), h3, v_76 h3 (64 * g + 59) (Int32.ofNat l) y, w_up m2 1076 79 0, k2, ?_, ?_, CP_79 H3, EF_trans (EF_RN R2) (EF_trans (EF_RN RJ) EF_76), Or.inl ⟨rfl, w_up_at⟩⟩
      · unfold q_116_25
        rw [p143, if_neg hv]
        simp only [w_gd, Option.bind_some]
        rw [if_neg no10, if_neg v3, if_neg v3, u_ix (by omega) (by decide), u_cl (by omega), j2]
        rfl
      · rw [mdl, m71, ← i1, if_neg hv]
        unfold q_242_88
        rw [go_0 no10 no10 no10]
        simp only [Option.bind_some, no10, if_false]
        have z1 : g_237 (w_up m2 1076 79 0) 1093 (Int32.ofNat (234 * g + 9 * l)) y = g_237 m2 1093 (Int32.ofNat (234 * g + 9 * l)) y := by
          unfold g_237; rw [w_up_q (by decide)]
        have z2 : v_237 (w_up m2 1076 79 0) 1093 (Int32.ofNat (234 * g + 9 * l)) y = v_237 m2 1093 (Int32.ofNat (234 * g + 9 * l)) y := by
          unfold v_237; simp only [w_up_q (show (1093 : Nat) ≠ 1076 by decide)]
        rw [z1, j3, z2, j1]
        rfl
  · rw [if_neg h0, if_neg h0] at p143
    refine fail ?_ ?_
    · unfold q_116_25
      rw [p143]
      rfl
    · unfold q_242_71
      rw [if_neg (u_lt0 (by omega)), if_neg (u_lt0 (by omega)), u_ix (by omega) (by decide), u_cl (by omega), ← e1, if_neg h0, if_neg h0]
      rfl
/-- nobody gives it -/
theorem val_none (H : CP h m n nw k B) {l : Nat} {r : Int32} (hr : r = -1 ∨ r = -2) : q_116_25 h y (Int32.ofNat l) (-1) = some (.inr 1, h) ∧ q_242_29 (w_up m 1076 79 0) (Int32.ofNat (97 + l)) y r = some (0, w_up (w_up m 1076 79 0) 1076 79 2) := by
  refine ⟨?_, ?_⟩
  · unfold q_116_25 p_143
    have : v_125 h (-1) = 0 := by unfold v_125; rw [if_pos (by decide)]
    rw [if_pos this, if_pos rfl]
    rfl
  · have h1 : r < 16 := by rcases hr with rfl | rfl <;> decide
    have h2 : r < 0 := by rcases hr with rfl | rfl <;> decide
    unfold q_242_29
    rw [if_pos h1, if_pos h2]
    unfold q_242_58
    rw [if_pos h2]
    unfold q_242_71
    rw [if_pos h2, if_pos h2]
    simp only [w_gd]
    unfold q_242_88
    rw [go_2 no10 rfl]
    simp only [Option.bind_some, if_true, w_gd]
/-- value -/
theorem call_19 (H : CI b h m) (hb : b + 20 ≤ 1000000) : OUT b h m (p_116 h x y) (p_242 m x y) [(0, 1), (1, 2)] := by
  obtain ⟨n, nw, k, hk, H⟩ := CI_up H hb
  have h16 := H.2.1.1
  have h4 := H.2.1.2.2.2.1
  by_cases e : v_123 x = 0
  · refine OUT_x H (id := 0) (e := 1) (v := 0) ?_ ?_ (List.mem_cons_self ..)
    · unfold p_116; rw [if_pos e]
    · unfold p_242
      rw [let_eq, go_1 e]
      simp only [Option.bind_some, if_true]
  · have hL : isL x = true := by
      rw [s_123] at e
      cases hL : isL x with
      | true => rfl
      | false => rw [hL] at e; exact absurd rfl e
    obtain ⟨l, hl, rfl, e2⟩ := L_nat hL
    have H79 := CP_79 (x := 0) H
    have c82 := c_82 H.2.1 hl
    obtain ⟨r, r1, r2⟩ := m_181 H79.2.2.1 hl
    have cls : p_116 h (Int32.ofNat (97 + l)) y = (p_82 h (Int32.ofNat l)).bind fun vz2 => if (v_125 h vz2) = 0 then (q_116_25 h y (Int32.ofNat l) vz2) else ((p_134 h vz2).bind fun vz12 => if vz12.1 = 0 then (q_116_25 vz12.2 y (Int32.ofNat l) vz2) else ((p_138 vz12.2 vz2).bind fun vz14 => q_116_25 vz14.2 y (Int32.ofNat l) vz2)) := by
      unfold p_116
      rw [if_neg e, e2]
    have mdl : p_242 m (Int32.ofNat (97 + l)) y = if r < 0 then q_242_29 (w_up m 1076 79 0) (Int32.ofNat (97 + l)) y r else ((p_180 (w_up m 1076 79 0) (Int32.ofNat (97 + l)) ((w_up m 1076 79 0) 1076 2)).bind fun vz24 => if vz24 = (-1) then q_242_29 (w_up m 1076 79 0) (Int32.ofNat (97 + l)) y r else ((p_180 (w_up m 1076 79 0) (Int32.ofNat (97 + l)) ((w_up m 1076 79 0) 1076 2)).bind fun vz26 => q_242_29 (w_up m 1076 79 0) (Int32.ofNat (97 + l)) y vz26)) := by
      unfold p_242
      rw [let_eq, go_0 e no10 no10]
      simp only [Option.bind_some, no10, if_false]
      rw [r1]
      rfl
    have none_ : (r = -1 ∨ r = -2) → ¬ cnt (dfh h n nw l) 32 = 1 → OUT b h m (p_116 h (Int32.ofNat (97 + l)) y) (p_242 m (Int32.ofNat (97 + l)) y) [(0, 1), (1, 2)] := by
      intro hr hc
      rw [if_neg hc] at c82
      obtain ⟨z1, z2⟩ := val_none (y := y) H (l := l) hr
      have hr0 : r < 0 := by rcases hr with rfl | rfl <;> decide
      refine ⟨.inr 1, h, 0, w_up (w_up m 1076 79 0) 1076 79 2, ?_, ?_, ⟨n, nw, k, CP_79 H79⟩, EF_trans EF_76 EF_76, Or.inr ⟨1, 2, List.mem_cons_of_mem _ (List.mem_singleton.mpr rfl), rfl, w_up_at⟩⟩
      · rw [cls, c82]
        simp only [Option.bind_some]
        have : v_125 h (-1) = 0 := by unfold v_125; rw [if_pos (by decide)]
        rw [if_pos this, z1]
      · rw [mdl, if_pos hr0, z2]
    rcases r2 with ⟨hr, hd⟩ | ⟨hr, hd⟩ | ⟨i, hi, hr, hd⟩
    · refine none_ (Or.inl hr) ?_
      have : cnt (dfh h n nw l) 32 = 0 := by
        rw [cnt_congr 32 (g := fun _ => false) (fun j _ => hd j)]
        decide
      omega
    · exact none_ (Or.inr hr) (by omega)
    · have hc1 : cnt (dfh h n nw l) 32 = 1 := by rw [cnt_one hd 32, if_pos (by omega)]
      rw [if_pos hc1, lst_one hd 20 hi] at c82
      have hr0 : ¬ r < 0 := by rw [hr]; exact u_lt0 (by omega)
      have p180 := m_180 H79.2.2.1 (l := l) (b := n) hl (Nat.le_refl _)
      have e2' : (w_up m 1076 79 0) 1076 2 = Int32.ofNat n := H79.2.2.1.2.2.1
      rw [if_neg hr0, e2', p180] at mdl
      simp only [Option.bind_some] at mdl
      have cell : ∀ g, g < n → p_82 h (Int32.ofNat l) = some (Int32.ofNat g) → p_242 m (Int32.ofNat (97 + l)) y = q_242_29 (w_up m 1076 79 0) (Int32.ofNat (97 + l)) y (Int32.ofNat g) → OUT b h m (p_116 h (Int32.ofNat (97 + l)) y) (p_242 m (Int32.ofNat (97 + l)) y) [(0, 1), (1, 2)] := by
        intro g hg q1 q2
        obtain ⟨rr, h', v, m', k', w1, w2, w3, w4, w5⟩ := val_cell (y := y) H79 (by omega) hg hl
        have v1 : ¬ v_125 h (Int32.ofNat g) = 0 := by
          unfold v_125
          rw [if_neg (u_lt0 (by omega)), H.2.1.2.1, if_pos ((u_lt (by omega) (by omega)).mpr hg)]; decide
        refine ⟨rr, h', v, m', ?_, by rw [q2]; exact w2, ⟨n, nw, k', w3⟩, EF_trans EF_76 w4, ?_⟩
        · rw [cls, q1]
          simp only [Option.bind_some]
          rw [if_neg v1]
          exact w1
        · rcases w5 with w5 | w5
          · exact Or.inl w5
          · exact Or.inr ⟨1, 2, List.mem_cons_of_mem _ (List.mem_singleton.mpr rfl), w5.1, w5.2⟩
      cases hls : lst (fun k => bt (h (64 * k + 55) 6) l) n with
      | some g =>
        have hg := (lst_lt n hls).1
        rw [hls] at c82 mdl
        refine cell g hg c82 ?_
        rw [if_neg (show ¬ oi (some g) = -1 from m1_ne (by omega))] at mdl
        exact mdl
      | none =>
        rw [hls] at c82 mdl
        rw [if_pos (show oi none = -1 from rfl), hr] at mdl
        have hdi : dfh h n nw l i = true := by rw [hd i]; simp
        unfold dfh at hdi
        simp only [Bool.or_eq_true, Bool.and_eq_true, decide_eq_true_eq] at hdi
        rcases hdi with hdi | hdi
        · exact cell i hdi.1 c82 mdl
        · have c82' : p_82 h (Int32.ofNat l) = some (Int32.ofNat i) := c82
          have v0 : v_125 h (Int32.ofNat i) = 0 := by
            unfold v_125
            rw [if_neg (u_lt0 (by omega)), H.2.1.2.1, if_neg (fun hh => absurd ((u_lt (by omega) (by omega)).mp hh) (by omega))]
          have e16 : Int32.ofNat i - 16 = Int32.ofNat (i - 16) := u_subL (a := i) (n := 16) (by omega)
          have g16 : ¬ Int32.ofNat i < 16 := fun hh => absurd ((u_ltL (n := 16) (by omega) (by decide)).mp hh) (by omega)
          have p143 : p_143 h (Int32.ofNat i) (Int32.ofNat l) y = some ((if y = (-1) then 1 else 0 : Int32), h) := by
            unfold p_143
            rw [if_pos v0, if_neg (m1_ne (by omega))]
          have m29 : q_242_29 (w_up m 1076 79 0) (Int32.ofNat (97 + l)) y (Int32.ofNat i) = q_242_41 (w_up m 1076 79 0) (Int32.ofNat i) (if y = (-1) then 1 else 0 : Int32) 1 := by
            unfold q_242_29
            rw [if_neg g16]
          obtain ⟨s1, s2⟩ := s_93 (h := h) (nw := nw) (w := i - 16) H.2.1.2.2.1 h4 (by omega)
          have es : shv h nw (i - 16) = m 1115 (i - 16) := by
            unfold shv
            rw [if_pos (by omega)]
            exact H.2.2.2.1.1 _ (by omega)
          by_cases hy : y = -1
          · rw [if_pos hy] at p143 m29
            refine ⟨.inl (shv h nw (i - 16)), h, shv h nw (i - 16), w_up (w_up m 1076 79 0) 1076 79 0, ?_, ?_, ⟨n, nw, k, CP_79 H79⟩, EF_trans EF_76 EF_76, Or.inl ⟨rfl, w_up_at⟩⟩
            · rw [cls, c82']
              simp only [Option.bind_some]
              rw [if_pos v0]
              unfold q_116_25
              rw [p143]
              simp only [Option.bind_some]
              rw [if_neg no10, if_pos v0, if_pos v0, e16, s2, s1]
              rfl
            · rw [mdl, m29]
              unfold q_242_41
              rw [go_0 no10 no10 no10]
              simp only [Option.bind_some, no10, if_false]
              rw [e16, u_ix (by omega) (by decide), u_cl (by omega), w_up_q (by decide), w_up_q (by decide), es]
              rfl
          · rw [if_neg hy] at p143 m29
            refine ⟨.inr 1, h, 0, w_up (w_up m 1076 79 0) 1076 79 2, ?_, ?_, ⟨n, nw, k, CP_79 H79⟩, EF_trans EF_76 EF_76, Or.inr ⟨1, 2, List.mem_cons_of_mem _ (List.mem_singleton.mpr rfl), rfl, w_up_at⟩⟩
            · rw [cls, c82']
              simp only [Option.bind_some]
              rw [if_pos v0]
              unfold q_116_25
              rw [p143]
              rfl
            · rw [mdl, m29]
              unfold q_242_41
              rw [go_2 no10 rfl]
              simp only [Option.bind_some, if_true, w_gd]
end SB1
