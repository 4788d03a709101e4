/-! ===== value; type, fault, mode ===== -/
section SB0
variable {h h' h1 m m' m1 : Hp} {n nw k B b c : Nat} {T : List Int32} {lang us x y z : Int32} {s : Nat → Int32}
/-- coupled again, where cells and web stay -/
theorem CP_bld (H : CP h m n nw k B) (eh : ∀ z, (z = 5 ∨ (11 ≤ z ∧ z ≤ 16) ∨ (52 ≤ z ∧ z < 1076)) → h' z = h z) (em : ∀ q, (1079 ≤ q ∧ q ≤ 1112) → m' q = m q) (e10 : h' 0 10 = h 0 10) (e4 : h' 4 7 = h 4 7) (e2 : m' 1076 2 = m 1076 2) (e48 : m' 1076 48 = m 1076 48) (S : SCL h' m' k) (Q : RSB h' m' n) (G : WG h' m' nw) (Y : TY h' m') (e8 : ∀ w, w < nw → h' 8 w = m' 1115 w) (v2 : m' 1123 = m 1123) : CP h' m' n nw k B := by
  obtain ⟨bb, J, W, R, -, -, -, -, P, C, V, V2, U⟩ := H
  have h16 := J.1
  have ec : ∀ j, j < 16 → h' (64 * j + 55) = h (64 * j + 55) := fun j hj => eh _ (by omega)
  have sc : ∀ c, c < 16 → sch c h h' := fun c hc z a b d => eh z (by omega)
  have sm : ∀ c, scm c m m' := fun c => by
    refine ⟨fun q hq => ?_, fun q b hq hb => ?_, fun q b hq hb => ?_, fun q b hq hb => ?_, fun b hb => ?_, fun k a b => ⟨fun b hb => ?_, ?_, fun b hb => ?_, fun b hb => ?_, fun b hb => ?_⟩⟩
    all_goals rw [em _ (by omega)]
  refine ⟨bb, JOK_fr J e10 e4 (eh 5 (by omega)) (fun z a b => eh z (by omega)) ec, MW_eq W (eh 5 (by omega)) ec e2 e48 (fun q hq => em q (by omega)), ⟨e8, fun c hc => ?_, fun c k hc hk hne => ?_⟩, S, Q, G, Y, fun c hc => PL_fr (P c hc) (Nat.le_refl _) (Nat.le_refl _) (sc c hc) (sm c) e48, fun c hc => CT_fr (C c hc) (sc c (by omega)) (sm c), fun j x hj hx => ?_, fun j x hj hx => ?_, fun c hc => UH_fr (U c hc) (by omega) (eh 5 (by omega)) (fun j hj => eh _ (by omega)) ec h16⟩
  · have e52 : h' (64 * c + 52) = h (64 * c + 52) := eh _ (by omega)
    have e79 : h' (64 * c + 79) = h (64 * c + 79) := eh _ (by omega)
    obtain ⟨q1, q2, q3, q4⟩ := R.2.1 c hc
    rw [e52, e79, em 1087 (by omega), em 1089 (by omega), em 1082 (by omega), em 1088 (by omega), em 1090 (by omega), em 1091 (by omega)]
    exact ⟨q1, q2, q3, q4⟩
  · rw [em 1088 (by omega)]; exact R.2.2 c k hc hk hne
  · obtain ⟨v, hv⟩ := V j x hj hx
    exact ⟨v, mv_fr hv (fun _ _ _ => by rw [em 1093 (by omega)])⟩
  · obtain ⟨v, hv⟩ := V2 j x hj hx
    exact ⟨v, mv_fr hv (fun _ _ _ => by rw [v2])⟩
theorem SCL_fr (S : SCL h m k) (e40 : h' 40 0 = h 40 0 ∧ h' 40 1 = h 40 1) (e0 : ∀ b, (11 ≤ b ∧ b ≤ 14) → h' 0 b = h 0 b) (e76 : ∀ b, ((19 ≤ b ∧ b ≤ 22) ∨ b = 29 ∨ b = 31 ∨ b = 32) → m' 1076 b = m 1076 b) : SCL h' m' k := by
  unfold SCL at *
  rw [e40.1, e40.2, e0 11 (by omega), e0 12 (by omega), e0 13 (by omega), e0 14 (by omega), e76 31 (by omega), e76 32 (by omega), e76 29 (by omega), e76 20 (by omega), e76 21 (by omega), e76 19 (by omega), e76 22 (by omega)]
  exact S
theorem RSB_fr (Q : RSB h m n) (h16 : n ≤ 16) (e0 : ∀ b, (15 ≤ b ∧ b ≤ 17) → h' 0 b = h 0 b) (ec : ∀ c, c < 16 → h' (64 * c + 52) = h (64 * c + 52)) (e76 : ∀ b, (45 ≤ b ∧ b ≤ 47) → m' 1076 b = m 1076 b) (em : m' 1100 = m 1100) : RSB h' m' n := by
  obtain ⟨q1, q2, q3, q4, q5⟩ := Q
  refine ⟨by rw [e0 17 (by omega), e76 45 (by omega)]; exact q1, by rw [e0 17 (by omega)]; exact q2, by rw [e0 15 (by omega), e76 46 (by omega)]; exact q3, by rw [e0 16 (by omega), e76 47 (by omega)]; exact q4, fun hh c hc => ?_⟩
  rw [ec c (by omega), em]
  exact q5 (by rw [← e0 17 (by omega)]; exact hh) c hc
/-- it can't be restored any more -/
theorem RSB_no (Q : RSB h m n) (e17 : h' 0 17 = 0) (e15 : h' 0 15 = h 0 15) (e16 : h' 0 16 = h 0 16) (e45 : m' 1076 45 = 0) (e46 : m' 1076 46 = m 1076 46) (e47 : m' 1076 47 = m 1076 47) {n' : Nat} : RSB h' m' n' :=
  ⟨e17.trans e45.symm, Or.inl e17, by rw [e15, e46]; exact Q.2.2.1, by rw [e16, e47]; exact Q.2.2.2.1, fun hh => absurd e17 hh⟩
theorem chr_i2c {a : Int32} : j_nar 51 (la_i2c a) = la_i2c a := by
  show (a.toUInt32 % 65536).toInt32.toUInt32.toUInt16.toUInt32.toInt32 = (a.toUInt32 % 65536).toInt32
  congr 1
  rw [UInt32.toUInt32_toInt32]
  apply UInt32.toNat_inj.mp
  simp [UInt32.toNat_mod]
/-- type -/
theorem call_0 (H : CI b h m) (hb : b + 20 ≤ 1000000) (hy : j_nar 51 y = y) : OUT b h m (p_97 h x y) (p_159 m x y) [(0, 1), (1, 2)] := by
  obtain ⟨n, nw, k, hk, H⟩ := CI_up H hb
  by_cases e : v_121 x = 0
  · refine OUT_x H (id := 0) (e := 1) (v := 0) ?_ ?_ (List.mem_cons_self ..)
    · unfold p_97; rw [if_pos e]
    · unfold p_159
      rw [hand_eq, if_pos e, if_pos e]
      simp only [w_gd]
      unfold q_159_18
      rw [go_1 e]
      simp only [Option.bind_some, if_true]
  · obtain ⟨i, hi, rfl⟩ := hand_nat e
    obtain ⟨T, t1, t2, t3⟩ := H.2.2.2.2.2.2.2.1 i hi
    obtain ⟨t40, tl, tc, tch⟩ := t1
    have e48 : 2 * i + 48 = 48 + 2 * i := by omega
    by_cases hl : T.length < 40
    · have hlt : Int32.ofNat T.length < 40 := (u_ltL (by omega) (by decide)).mpr hl
      have cls : p_97 h (Int32.ofNat i) y = some (.inl (Int32.ofNat (T.length + 1)), w_up (w_up h (48 + 2 * i + 1) T.length y) (48 + 2 * i) 1 (Int32.ofNat (T.length + 1))) := by
        unfold p_97
        rw [if_neg e]
        simp (disch := omega) only [u_ix, u_cl, w_gd, e48]
        unfold p_56
        rw [tl, if_pos hlt]
        simp (disch := omega) only [u_ix, u_cl, w_gd, w_let, hy, w_up_q, tl, u_S, Option.bind_some]
        rw [if_neg no10, w_up_at]
      have e40 : (40 : Int32) * Int32.ofNat i + Int32.ofNat T.length = Int32.ofNat (40 * i + T.length) := u_40 i T.length
      have mdl : p_159 m (Int32.ofNat i) y = some (Int32.ofNat (T.length + 1), w_up (w_up (w_up m 1076 79 0) 1077 (40 * i + T.length) y) 1078 i (Int32.ofNat (T.length + 1))) := by
        unfold p_159
        rw [hand_eq, if_neg e, if_neg e]
        simp (disch := omega) only [u_ix, u_cl, w_gd]
        rw [t2, if_pos hlt]
        unfold q_159_18
        rw [go_0 e no10 no10]
        simp only [Option.bind_some, no10, if_false]
        simp (disch := omega) only [u_ix, u_cl, w_gd, w_let, w_up_q, t2, e40, u_S, w_up_at]
      generalize hg : w_up (w_up h (48 + 2 * i + 1) T.length y) (48 + 2 * i) 1 (Int32.ofNat (T.length + 1)) = g at cls
      generalize hp : w_up (w_up (w_up m 1076 79 0) 1077 (40 * i + T.length) y) 1078 i (Int32.ofNat (T.length + 1)) = p at mdl
      have gq : ∀ z, z ≠ 48 + 2 * i → z ≠ 48 + 2 * i + 1 → g z = h z := fun z a b => by rw [← hg]; funext o; rw [w_up_q a, w_up_q b]
      have pq : ∀ q, q ≠ 1076 → q ≠ 1077 → q ≠ 1078 → p q = m q := fun q a b d => by rw [← hp]; funext o; rw [w_up_q d, w_up_q b, w_up_q a]
      have p76 : ∀ o, o ≠ 79 → p 1076 o = m 1076 o := fun o ho => by rw [← hp, w_up_q (by decide), w_up_q (by decide), w_up_b ho]
      have p79 : p 1076 79 = 0 := by rw [← hp, w_up_q (by decide), w_up_q (by decide), w_up_at]
      refine ⟨_, g, _, p, cls, mdl, ⟨n, nw, k, CP_bld H (fun z hz => gq z (by omega) (by omega)) (fun q hq => pq q (by omega) (by omega) (by omega)) (by rw [gq 0 (by omega) (by omega)]) (by rw [gq 4 (by omega) (by omega)]) (p76 2 (by decide)) (p76 48 (by decide)) (SCL_fr H.2.2.2.2.1 ⟨by rw [gq 40 (by omega) (by omega)], by rw [gq 40 (by omega) (by omega)]⟩ (fun o _ => by rw [gq 0 (by omega) (by omega)]) (fun o ho => p76 o (by omega))) (RSB_fr H.2.2.2.2.2.1 H.2.1.1 (fun o _ => by rw [gq 0 (by omega) (by omega)]) (fun c _ => gq _ (by omega) (by omega)) (fun o ho => p76 o (by omega)) (pq 1100 (by decide) (by decide) (by decide))) (WG_fr H.2.2.2.2.2.2.1 (by rw [gq 4 (by omega) (by omega)]) (fun z hz => gq z (by omega) (by omega)) (fun q hq => pq q (by omega) (by omega) (by omega))) ?_ (fun w hw => by rw [gq 8 (by omega) (by omega), pq 1115 (by decide) (by decide) (by decide)]; exact H.2.2.2.1.1 w hw) (pq 1123 (by decide) (by decide) (by decide))⟩, ⟨fun z hz => gq z (by omega) (by omega), fun q hq => pq q (by omega) (by omega) (by omega)⟩, Or.inl ⟨rfl, p79⟩⟩
      intro j hj
      by_cases ej : j = i
      · subst ej
        have gd : ∀ a, a < T.length → (T ++ [y]).getD a 0 = T.getD a 0 := fun a ha => by
          rw [List.getD_eq_getElem?_getD, List.getElem?_append_left ha, List.getD_eq_getElem?_getD]
        have gl : (T ++ [y]).getD T.length 0 = y := by
          rw [List.getD_eq_getElem?_getD, List.getElem?_append_right (Nat.le_refl _)]; simp
        refine ⟨T ++ [y], ⟨by rw [List.length_append]; show T.length + 1 ≤ 40; omega, ?_, fun a ha => ?_, fun a ha => ?_⟩, ?_, fun a ha => ?_⟩
        · rw [← hg, w_up_at, List.length_append]; rfl
        · rw [List.length_append] at ha
          have ha' : a < T.length + 1 := ha
          rw [← hg, w_up_q (by omega)]
          by_cases ea : a = T.length
          · subst ea; rw [w_up_at, gl]
          · rw [w_up_b ea, gd a (by omega)]; exact tc a (by omega)
        · rw [List.length_append] at ha
          have ha' : a < T.length + 1 := ha
          by_cases ea : a = T.length
          · subst ea; rw [gl]; exact hy
          · rw [gd a (by omega)]; exact tch a (by omega)
        · rw [← hp, w_up_at, List.length_append]; rfl
        · rw [List.length_append] at ha
          have ha' : a < T.length + 1 := ha
          rw [← hp, w_up_q (by decide)]
          by_cases ea : a = T.length
          · subst ea; rw [w_up_at, gl]
          · rw [w_up_b (by omega), w_up_q (by decide), gd a (by omega)]; exact t3 a (by omega)
      · obtain ⟨T', u1, u2, u3⟩ := H.2.2.2.2.2.2.2.1 j hj
        refine ⟨T', tx_fr2 u1 (gq _ (by omega) (by omega)) (gq _ (by omega) (by omega)), ?_, fun a ha => ?_⟩
        · rw [← hp, w_up_b ej, w_up_q (by decide), w_up_q (by decide)]; exact u2
        · have := u1.1
          rw [← hp, w_up_q (by decide), w_up_b (by omega), w_up_q (by decide)]; exact u3 a ha
    · have hlt : ¬ Int32.ofNat T.length < 40 := fun hh => hl ((u_ltL (by omega) (by decide)).mp hh)
      refine OUT_x H (id := 1) (e := 2) (v := 0) ?_ ?_ (List.mem_cons_of_mem _ (List.mem_singleton.mpr rfl))
      · unfold p_97
        rw [if_neg e]
        simp (disch := omega) only [u_ix, u_cl, w_gd, e48]
        unfold p_56
        rw [tl, if_neg hlt]
        simp only [Option.bind_some, if_true]
      · unfold p_159
        rw [hand_eq, if_neg e, if_neg e]
        simp (disch := omega) only [u_ix, u_cl, w_gd]
        rw [t2, if_neg hlt]
        unfold q_159_18
        rw [go_2 e rfl]
        simp only [Option.bind_some, if_true]
/-- fault -/
theorem call_1 (H : CI b h m) (hb : b + 20 ≤ 1000000) : OUT b h m (p_98 h x y) (p_160 m x y) [(0, 1)] := by
  obtain ⟨n, nw, k, hk, H⟩ := CI_up H hb
  rcases call_fault (h := h) (m := m) (a := x) (b := y) H.2.2.2.2.2.2.2.1 with ⟨m', p1, p2, -, p4⟩ | ⟨v, h', m', p1, p2, p3, p4, p5⟩
  · rw [p4] at p2
    exact OUT_x H (id := 0) (e := 1) p1 p2 (List.mem_singleton.mpr rfl)
  · have H79 := CP_79 (x := 0) H
    have pq : ∀ q, q ≠ 1076 → q ≠ 1127 → q ≠ 1128 → q ≠ 1129 → m' q = m q := fun q a b d e => by
      rw [p5.1 q (by unfold flP; omega)]; exact funext fun o => w_up_q a
    have hq : ∀ z, z ≠ 17 → ¬ (24 ≤ z ∧ z ≤ 27) → h' z = h z := fun z a b => p4 z (by unfold rdP; omega)
    have Hc : CP h' (w_up m 1076 79 0) n nw k (b + 20) := CP_cls H79 (fun z hz => hq z (by unfold hRw at hz; omega) (by unfold hRw at hz; omega)) ⟨by rw [hq 40 (by decide) (by decide)], by rw [hq 40 (by decide) (by decide)]⟩
    have Hm : CP h' m' n nw k (b + 20) := CP_mod Hc (fun q hq => p5.1 q (by unfold mRw at hq; unfold flP; omega)) (fun o ho => p5.2 o (by unfold mSl at ho; omega) (by unfold mSl at ho; omega) (by unfold mSl at ho; omega)) (p5.1 1123 (by unfold flP; omega))
    exact ⟨.inl v, h', v, m', p1, p2, ⟨n, nw, k, Hm⟩, ⟨fun z hz => hq z (by omega) (by omega), fun q hq => pq q (by omega) (by omega) (by omega) (by omega)⟩, Or.inl ⟨rfl, p3⟩⟩
/-- mode -/
theorem call_4 (H : CI b h m) (hb : b + 20 ≤ 1000000) : OUT b h m (p_101 h x) (p_169 m x) [(0, 1)] := by
  obtain ⟨n, nw, k, hk, H⟩ := CI_up H hb
  by_cases hx : x = 0 ∨ x = 1 ∨ x = 2
  · have cls : p_101 h x = q_101_9 h x := by
      unfold p_101
      rcases hx with rfl | rfl | rfl
      · rw [if_pos rfl]
      · rw [if_neg (by decide), if_pos rfl]
      · rw [if_neg (by decide), if_neg (by decide), if_pos rfl]
    have hv : ¬ v_147 x 0 2 = 0 := by rcases hx with rfl | rfl | rfl <;> decide
    have em : h 0 11 = m 1076 22 := H.2.2.2.2.1.2.2.2.2.2.2.2
    have H79 := CP_79 (x := 0) H
    have gq : ∀ z, z ≠ 0 → w_up h 0 11 x z = h z := fun z a => funext fun o => w_up_q a
    have pq : ∀ q, q ≠ 1076 → w_up (w_up m 1076 79 0) 1076 22 x q = m q := fun q a => funext fun o => by rw [w_up_q a, w_up_q a]
    have p76 : ∀ o, o ≠ 79 → o ≠ 22 → w_up (w_up m 1076 79 0) 1076 22 x 1076 o = m 1076 o := fun o a d => by rw [w_up_b d, w_up_b a]
    have H2 : CP (w_up h 0 11 x) (w_up (w_up m 1076 79 0) 1076 22 x) n nw k (b + 20) := CP_bld H (fun z hz => gq z (by omega)) (fun q hq => pq q (by omega)) (w_up_b (by decide)) (by rw [gq 4 (by decide)]) (p76 2 (by decide) (by decide)) (p76 48 (by decide) (by decide)) (by
        obtain ⟨s1, s2, s3, s4, s5, s6, s7, s8⟩ := H.2.2.2.2.1
        exact ⟨by rw [gq 40 (by decide), p76 31 (by decide) (by decide)]; exact s1, by rw [gq 40 (by decide), p76 32 (by decide) (by decide)]; exact s2, by rw [p76 29 (by decide) (by decide)]; exact s3, by rw [w_up_b (by decide), p76 20 (by decide) (by decide)]; exact s4, by rw [w_up_b (by decide), p76 21 (by decide) (by decide)]; exact s5, by rw [w_up_b (by decide)]; exact s6, by rw [p76 19 (by decide) (by decide)]; exact s7, by rw [w_up_at, w_up_at]⟩) (RSB_fr H.2.2.2.2.2.1 H.2.1.1 (fun o ho => w_up_b (by omega)) (fun c _ => gq _ (by omega)) (fun o ho => p76 o (by omega) (by omega)) (pq 1100 (by decide))) (WG_fr H.2.2.2.2.2.2.1 (by rw [gq 4 (by decide)]) (fun z hz => gq z (by omega)) (fun q hq => pq q (by omega))) (TY_fr H.2.2.2.2.2.2.2.1 (fun z a _ => gq z (by omega)) (fun q hq => pq q (by omega))) (fun w hw => by rw [gq 8 (by decide), pq 1115 (by decide)]; exact H.2.2.2.1.1 w hw) (pq 1123 (by decide))
    obtain ⟨h', m', k', z1, z2, z3, z4, z5⟩ := at_once H2 (by omega)
    refine ⟨.inl (h 0 11), h', m 1076 22, m', ?_, ?_, ⟨n, nw, k', z3⟩, EF_trans ⟨fun z hz => gq z (by omega), fun q hq => pq q (by omega)⟩ (EF_RN z5), Or.inl ⟨by rw [em], by rw [z5.2.2.1, w_up_b (by decide), w_up_at]⟩⟩
    · rw [cls]
      unfold q_101_9
      simp only [w_let]
      rw [z1]
      rfl
    · unfold p_169
      rw [go_0 hv no10 no10]
      simp only [Option.bind_some, no10, if_false, w_let]
      rw [z2]
      simp only [Option.bind_some]
      rw [w_up_b (by decide)]
  · have hv : v_147 x 0 2 = 0 := by
      have := (lang_eq (x := x)).1
      rw [this]
      unfold v_122
      rw [if_neg (fun e => hx (Or.inl e)), if_neg (fun e => hx (Or.inr (Or.inl e))), if_neg (fun e => hx (Or.inr (Or.inr e)))]
    refine OUT_x H (id := 0) (e := 1) (v := 0) ?_ ?_ (List.mem_singleton.mpr rfl)
    · unfold p_101
      rw [if_neg (fun e => hx (Or.inl e)), if_neg (fun e => hx (Or.inr (Or.inl e))), if_neg (fun e => hx (Or.inr (Or.inr e)))]
    · unfold p_169
      rw [go_1 hv]
      simp only [Option.bind_some, if_true]
end SB0
