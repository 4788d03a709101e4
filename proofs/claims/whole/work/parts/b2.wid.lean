/-! ===== bind, turn ===== -/
section SB2
variable {h h' h1 m m' m1 : Hp} {n nw k B b c : Nat} {T : List Int32} {lang us x y z : Int32} {s : Nat → Int32}
/-- bind -/
theorem call_6 (H : CI b h m) (hb : b + 20 ≤ 1000000) : OUT b h m (p_103 h x y) (p_173 m x y) [(2, 1), (0, 2)] ∧ ∀ v g, p_103 h x y = some (.inl v, g) → v = 0 ∨ v = 1 := by
  obtain ⟨n, nw, k, hk, H⟩ := CI_up H hb
  have h4 := H.2.1.2.2.2.1
  have w1 := wid_eq (x := x) H
  have w2 := wid_eq (x := y) H
  by_cases e1 : v_88 h x = 0
  · have cls : p_103 h x y = some (.inr 2, h) := by unfold p_103; rw [if_pos e1]
    refine ⟨OUT_x H (id := 2) (e := 1) (v := 0) cls ?_ (List.mem_cons_self ..), fun v g hh => by rw [cls] at hh; cases hh⟩
    unfold p_173 q_173_12 q_173_18
    rw [w1, if_pos e1, go_1 rfl]
    simp only [Option.bind_some, if_true]
  by_cases e2 : v_88 h y = 0
  · have cls : p_103 h x y = some (.inr 2, h) := by unfold p_103; rw [if_neg e1, if_pos e2]
    refine ⟨OUT_x H (id := 2) (e := 1) (v := 0) cls ?_ (List.mem_cons_self ..), fun v g hh => by rw [cls] at hh; cases hh⟩
    unfold p_173 q_173_12 q_173_18
    rw [w1, w2, if_neg e1, if_pos e2, go_1 rfl]
    simp only [Option.bind_some, if_true]
  by_cases e3 : x = y
  · have cls : p_103 h x y = some (.inr 0, h) := by unfold p_103; rw [if_neg e1, if_neg e2, if_pos e3]
    refine ⟨OUT_x H (id := 0) (e := 2) (v := 0) cls ?_ (List.mem_cons_of_mem _ (List.mem_singleton.mpr rfl)), fun v g hh => by rw [cls] at hh; cases hh⟩
    unfold p_173 q_173_12 q_173_18
    rw [w1, w2, if_neg e1, if_neg e2, if_pos e3, go_2 no10 rfl]
    simp only [Option.bind_some, if_true]
  obtain ⟨v, hv, rfl⟩ := wid_nat H e1
  obtain ⟨w, hw, rfl⟩ := wid_nat H e2
  have hne : v ≠ w := fun e => e3 (by rw [e])
  obtain ⟨g1, g2, g3, g4⟩ := H.2.2.2.2.2.2.1
  obtain ⟨t1, t2, t3⟩ := g4 v w (by omega) (by omega)
  generalize hz1 : h 10 v ^^^ (1 <<< (Int32.ofNat w &&& 31)) = z1
  generalize hz2 : h 10 w ^^^ (1 <<< (Int32.ofNat v &&& 31)) = z2
  have b1 : ∀ j, bt z1 j = (bt (h 10 v) j ^^ decide (j = w)) := fun j => by rw [← hz1, bt_xor, bt_one (by omega)]
  have b2 : ∀ j, bt z2 j = (bt (h 10 w) j ^^ decide (j = v)) := fun j => by rw [← hz2, bt_xor, bt_one (by omega)]
  generalize hs : (if m 1118 (4 * v + w) = 0 then 1 else 0 : Int32) = s0
  have s01 : s0 = 0 ∨ s0 = 1 := by rw [← hs]; split; exact Or.inr rfl; exact Or.inl rfl
  have ns : j_nar 52 s0 = s0 := by rcases s01 with h | h <;> rw [h] <;> rfl
  have hval : v_126 z1 (Int32.ofNat w) = s0 := by
    rw [u_has (by omega), b1 w, t1, ← hs]
    by_cases h0 : m 1118 (4 * v + w) = 0
    · rw [if_pos h0, decide_eq_true h0]; simp
    · rw [if_neg h0, decide_eq_false h0]; simp
  have cls : p_103 h (Int32.ofNat v) (Int32.ofNat w) = some (.inl s0, w_up (w_up h 10 v z1) 10 w z2) := by
    unfold p_103
    rw [if_neg e1, if_neg e2, if_neg e3]
    unfold p_90
    rw [if_neg e1, if_neg e2]
    simp (disch := omega) only [u_ix, u_cl, w_gd, w_let, hz1]
    rw [w_up_b hne, w_up_at, w_up_b hne.symm, hz2, hval]
    simp only [Option.bind_some]
    have : w_bo s0 = true := by rcases s01 with h | h <;> rw [h] <;> rfl
    rw [this]
  have i1 : (4 : Int32) * Int32.ofNat v + Int32.ofNat w = Int32.ofNat (4 * v + w) := by rw [show (4 : Int32) * Int32.ofNat v = Int32.ofNat (4 * v) from u_Lmul v 4, u_add]
  have i2 : (4 : Int32) * Int32.ofNat w + Int32.ofNat v = Int32.ofNat (4 * w + v) := by rw [show (4 : Int32) * Int32.ofNat w = Int32.ofNat (4 * w) from u_Lmul w 4, u_add]
  have mdl : p_173 m (Int32.ofNat v) (Int32.ofNat w) = some (s0, w_up (w_up (w_up m 1076 79 0) 1118 (4 * v + w) s0) 1118 (4 * w + v) s0) := by
    unfold p_173 q_173_12 q_173_18
    rw [w1, w2, if_neg e1, if_neg e2, if_neg e3, go_0 no10 no10 no10]
    simp only [Option.bind_some, no10, if_false]
    unfold q_173_35
    simp (disch := omega) only [i1, i2, u_ix, u_cl, w_gd, w_let]
    rw [w_up_q (by decide), hs, ns]
    have : w_bo s0 = true := by rcases s01 with h | h <;> rw [h] <;> rfl
    rw [this]
  refine ⟨?_, fun v' g hh => by rw [cls] at hh; cases hh; exact s01⟩
  generalize hg : w_up (w_up h 10 v z1) 10 w z2 = g at cls
  generalize hp : w_up (w_up (w_up m 1076 79 0) 1118 (4 * v + w) s0) 1118 (4 * w + v) s0 = p at mdl
  have gq : ∀ z, z ≠ 10 → g z = h z := fun z a => by rw [← hg]; funext o; rw [w_up_q a, w_up_q a]
  have pq : ∀ q, q ≠ 1076 → q ≠ 1118 → p q = m q := fun q a d => by rw [← hp]; funext o; rw [w_up_q d, w_up_q d, w_up_q a]
  have p76 : ∀ o, o ≠ 79 → p 1076 o = m 1076 o := fun o ho => by rw [← hp, w_up_q (by decide), w_up_q (by decide), w_up_b ho]
  have p79 : p 1076 79 = 0 := by rw [← hp, w_up_q (by decide), w_up_q (by decide), w_up_at]
  have gw : g 10 w = z2 := by rw [← hg, w_up_at]
  have gv : g 10 v = z1 := by rw [← hg, w_up_b hne, w_up_at]
  have go : ∀ a, a ≠ v → a ≠ w → g 10 a = h 10 a := fun a a1 a2 => by rw [← hg, w_up_b a2, w_up_b a1]
  have pw : p 1118 (4 * w + v) = s0 := by rw [← hp, w_up_at]
  have pv : p 1118 (4 * v + w) = s0 := by rw [← hp, w_up_b (by omega), w_up_at]
  have po : ∀ o, o ≠ 4 * v + w → o ≠ 4 * w + v → p 1118 o = m 1118 o := fun o a1 a2 => by rw [← hp, w_up_b a2, w_up_b a1, w_up_q (by decide)]
  have sd : decide (s0 = 0) = !decide (m 1118 (4 * v + w) = 0) := by
    rw [← hs]
    by_cases h0 : m 1118 (4 * v + w) = 0
    · rw [if_pos h0, decide_eq_true h0]; rfl
    · rw [if_neg h0, decide_eq_false h0]; rfl
  refine ⟨_, g, _, p, cls, mdl, ⟨n, nw, k, CP_bld H (fun z hz => gq z (by omega)) (fun q hq => pq q (by omega) (by omega)) (by rw [gq 0 (by omega)]) (by rw [gq 4 (by omega)]) (p76 2 (by decide)) (p76 48 (by decide)) (SCL_fr H.2.2.2.2.1 ⟨by rw [gq 40 (by omega)], by rw [gq 40 (by omega)]⟩ (fun o _ => by rw [gq 0 (by omega)]) (fun o ho => p76 o (by omega))) (RSB_fr H.2.2.2.2.2.1 H.2.1.1 (fun o _ => by rw [gq 0 (by omega)]) (fun c _ => gq _ (by omega)) (fun o ho => p76 o (by omega)) (pq 1100 (by decide) (by decide))) ?_ (TY_fr H.2.2.2.2.2.2.2.1 (fun z a _ => gq z (by omega)) (fun q hq => pq q (by omega) (by omega))) (fun w hw => by rw [gq 8 (by omega), pq 1115 (by decide) (by decide)]; exact H.2.2.2.1.1 w hw) (pq 1123 (by decide) (by decide))⟩, ⟨fun z hz => gq z (by omega), fun q hq => pq q (by omega) (by omega)⟩, Or.inl ⟨rfl, p79⟩⟩
  refine ⟨fun a ha => ?_, fun a ha => ?_, fun a ha => ?_, fun a d ha hd => ?_⟩
  · rw [gq 6 (by decide), gq 7 (by decide), pq 1113 (by decide) (by decide), pq 1114 (by decide) (by decide)]; exact g1 a ha
  · rw [gq 4 (by decide)] at ha
    rw [gq 9 (by decide), pq 1116 (by decide) (by decide)]; exact g2 a ha
  · rw [gq 4 (by decide), pq 1117 (by decide) (by decide)]; exact g3 a ha
  · obtain ⟨u1, u2, u3⟩ := g4 a d ha hd
    by_cases c1 : a = v ∧ d = w
    · obtain ⟨rfl, rfl⟩ := c1
      refine ⟨?_, ?_, fun hh => absurd hh (by omega)⟩
      · rw [gv, b1, pv, sd, u1]; simp
      · rw [pv, pw]
    by_cases c2 : a = w ∧ d = v
    · obtain ⟨rfl, rfl⟩ := c2
      refine ⟨?_, ?_, fun hh => absurd hh (by omega)⟩
      · rw [gw, b2, pw, sd, u1, u2]; simp
      · rw [pv, pw]
    · have q1 : p 1118 (4 * a + d) = m 1118 (4 * a + d) := po _ (by omega) (by omega)
      have q2 : p 1118 (4 * d + a) = m 1118 (4 * d + a) := po _ (by omega) (by omega)
      refine ⟨?_, by rw [q1, q2]; exact u2, fun hh => by rw [q1]; exact u3 hh⟩
      rw [q1, ← u1]
      by_cases ea : a = v
      · subst ea
        rw [gv, b1, decide_eq_false (fun e => c1 ⟨rfl, e⟩), Bool.xor_false]
      by_cases ew : a = w
      · subst ew
        rw [gw, b2, decide_eq_false (fun e => c2 ⟨rfl, e⟩), Bool.xor_false]
      · rw [go a ea ew]
/-- held within the range of a widget: class and model -/
theorem held_eq (H : WG h m nw) (h4 : nw ≤ 4) (hw7 : h 4 7 = Int32.ofNat nw) {w : Nat} (hw : w < nw) : v_91 h (Int32.ofNat w) y = v_175 m (Int32.ofNat w) y ∧ g_91 h (Int32.ofNat w) y = true ∧ g_175 m (Int32.ofNat w) y = true ∧ (v_91 h (Int32.ofNat w) y = y ↔ ¬ v_147 y (m 1113 w) (m 1114 w) = 0) := by
  obtain ⟨a1, a2, a3⟩ := H.1 w hw
  have v8 : ¬ v_88 h (Int32.ofNat w) = 0 := by
    unfold v_88
    rw [if_neg (u_lt0 (by omega)), hw7, if_pos ((u_lt (by omega) (by omega)).mpr hw)]; decide
  have ix := u_ix (a := w) (n := 4) (by omega) (by decide)
  have cl_ := u_cl (a := w) (by omega)
  unfold v_91 v_175 g_91 g_175 v_147
  rw [if_neg v8, if_neg v8, ix, cl_, ← a1, ← a2]
  generalize h 6 w = lo at *
  generalize h 7 w = hi at *
  rw [Int32.le_iff_toInt_le] at a3
  have e1 : lo.toInt ≤ hi.toInt := a3
  by_cases c1 : y < lo
  · have c1' := Int32.lt_iff_toInt_lt.mp c1
    have c2 : y < hi := Int32.lt_iff_toInt_lt.mpr (by omega)
    have c3 : ¬ lo < y := fun hh => by have := Int32.lt_iff_toInt_lt.mp hh; omega
    rw [if_pos c2, if_neg c3, if_pos c1, if_pos c1, if_pos c1]
    refine ⟨rfl, rfl, rfl, fun e => ?_, fun hh => absurd rfl hh⟩
    rw [e, Int32.lt_iff_toInt_lt] at c1; omega
  · have c1' : ¬ y.toInt < lo.toInt := fun hh => c1 (Int32.lt_iff_toInt_lt.mpr hh)
    rw [if_neg c1, if_neg c1, if_neg c1]
    by_cases c2 : y ≤ hi
    · have c2' := Int32.le_iff_toInt_le.mp c2
      rw [if_pos c2, if_pos c2, if_pos c2]
      have key : (if lo < (if y < hi then y else hi) then (if y < hi then y else hi) else lo) = y := by
        by_cases c3 : y < hi
        · rw [if_pos c3]
          by_cases c4 : lo < y
          · rw [if_pos c4]
          · have : ¬ lo.toInt < y.toInt := fun hh => c4 (Int32.lt_iff_toInt_lt.mpr hh)
            rw [if_neg c4]
            exact Int32.toInt_inj.mp (by omega)
        · have c3' : ¬ y.toInt < hi.toInt := fun hh => c3 (Int32.lt_iff_toInt_lt.mpr hh)
          have e2 : y = hi := Int32.toInt_inj.mp (by omega)
          rw [if_neg c3]
          by_cases c4 : lo < hi
          · rw [if_pos c4]; exact e2.symm
          · have : ¬ lo.toInt < hi.toInt := fun hh => c4 (Int32.lt_iff_toInt_lt.mpr hh)
            rw [if_neg c4]
            exact Int32.toInt_inj.mp (by omega)
      rw [key]
      exact ⟨rfl, rfl, rfl, fun _ => no10, fun _ => rfl⟩
    · have c2' : ¬ y.toInt ≤ hi.toInt := fun hh => c2 (Int32.le_iff_toInt_le.mpr hh)
      have c3 : ¬ y < hi := fun hh => by have := Int32.lt_iff_toInt_lt.mp hh; omega
      rw [if_neg c2, if_neg c2, if_neg c2, if_neg c3]
      have key : (if lo < hi then hi else lo) = hi := by
        by_cases c4 : lo < hi
        · rw [if_pos c4]
        · have : ¬ lo.toInt < hi.toInt := fun hh => c4 (Int32.lt_iff_toInt_lt.mpr hh)
          rw [if_neg c4]
          exact Int32.toInt_inj.mp (by omega)
      rw [key]
      refine ⟨rfl, rfl, rfl, fun e => ?_, fun hh => absurd rfl hh⟩
      rw [← e] at c2'; omega
/-- turn -/
theorem call_7 (H : CI b h m) (hb : b + 20 ≤ 1000000) : OUT b h m (p_104 h x y) (p_174 m x y) [(2, 1), (0, 2)] := by
  obtain ⟨n, nw, k, hk, H⟩ := CI_up H hb
  have h4 := H.2.1.2.2.2.1
  have w1 := wid_eq (x := x) H
  by_cases e1 : v_88 h x = 0
  · refine OUT_x H (id := 2) (e := 1) (v := 0) ?_ ?_ (List.mem_cons_self ..)
    · unfold p_104; rw [if_pos e1]
    · unfold p_174
      rw [w1, if_pos e1, if_pos e1]
      simp only [w_gd]
      unfold q_174_22
      rw [go_1 e1]
      simp only [Option.bind_some, if_true]
  obtain ⟨w, hw, rfl⟩ := wid_nat H e1
  obtain ⟨q1, q2, q3, q4⟩ := held_eq (y := y) H.2.2.2.2.2.2.1 h4 H.2.1.2.2.1 hw
  have mdl : p_174 m (Int32.ofNat w) y = q_174_22 m (Int32.ofNat w) y (if v_147 y (m 1113 w) (m 1114 w) = 0 then 0 else 1 : Int32) (v_88 h (Int32.ofNat w)) := by
    unfold p_174
    rw [w1, if_neg e1, if_neg e1, u_ix (by omega) (by decide), u_cl (by omega)]
    rfl
  by_cases e2 : v_91 h (Int32.ofNat w) y = y
  · rw [if_neg (q4.mp e2)] at mdl
    have cls : p_104 h (Int32.ofNat w) y = some (.inl (h 8 w), w_up (w_up (w_up h 9 w y) 4 6 (h 4 6 ||| (1 <<< (Int32.ofNat w &&& 31)))) 0 17 0) := by
      unfold p_104
      rw [if_neg e1, q2]
      simp only [w_gd]
      rw [if_pos e2]
      unfold p_92
      rw [if_neg e1]
      simp (disch := omega) only [u_ix, u_cl, w_gd, w_let, w_up_q, Option.bind_some]
    have mdl2 : p_174 m (Int32.ofNat w) y = some (m 1115 w, w_up (w_up (w_up (w_up m 1076 79 0) 1116 w y) 1117 w 1) 1076 45 0) := by
      rw [mdl]
      unfold q_174_22
      rw [go_0 e1 no10 no10]
      simp only [Option.bind_some, no10, if_false]
      have n52 : j_nar 52 1 = 1 := rfl
      simp (disch := omega) only [u_ix, u_cl, w_gd, w_let, w_up_q, n52]
    generalize hg : w_up (w_up (w_up h 9 w y) 4 6 (h 4 6 ||| (1 <<< (Int32.ofNat w &&& 31)))) 0 17 0 = g at cls
    generalize hp : w_up (w_up (w_up (w_up m 1076 79 0) 1116 w y) 1117 w 1) 1076 45 0 = p at mdl2
    have gq : ∀ z, z ≠ 9 → z ≠ 4 → z ≠ 0 → g z = h z := fun z a b c => by rw [← hg]; funext o; rw [w_up_q c, w_up_q b, w_up_q a]
    have pq : ∀ q, q ≠ 1076 → q ≠ 1116 → q ≠ 1117 → p q = m q := fun q a d e => by rw [← hp]; funext o; rw [w_up_q a, w_up_q e, w_up_q d, w_up_q a]
    have p76 : ∀ o, o ≠ 79 → o ≠ 45 → p 1076 o = m 1076 o := fun o ho h2 => by rw [← hp, w_up_b h2, w_up_q (by decide), w_up_q (by decide), w_up_b ho]
    have p79 : p 1076 79 = 0 := by rw [← hp, w_up_b (by decide), w_up_q (by decide), w_up_q (by decide), w_up_at]
    have g0 : ∀ o, o ≠ 17 → g 0 o = h 0 o := fun o ho => by rw [← hg, w_up_b ho, w_up_q (by decide), w_up_q (by decide)]
    have g47 : ∀ o, o ≠ 6 → g 4 o = h 4 o := fun o ho => by rw [← hg, w_up_q (by decide), w_up_b ho, w_up_q (by decide)]
    have g46 : g 4 6 = (h 4 6 ||| (1 <<< (Int32.ofNat w &&& 31))) := by rw [← hg, w_up_q (by decide), w_up_at]
    have es : h 8 w = m 1115 w := H.2.2.2.1.1 w hw
    obtain ⟨g1, g2, g3, g4⟩ := H.2.2.2.2.2.2.1
    refine ⟨_, g, _, p, cls, mdl2, ⟨n, nw, k, CP_bld H (fun z hz => gq z (by omega) (by omega) (by omega)) (fun q hq => pq q (by omega) (by omega) (by omega)) (g0 10 (by decide)) (g47 7 (by decide)) (p76 2 (by decide) (by decide)) (p76 48 (by decide) (by decide)) (SCL_fr H.2.2.2.2.1 ⟨by rw [gq 40 (by omega) (by omega) (by omega)], by rw [gq 40 (by omega) (by omega) (by omega)]⟩ (fun o ho => g0 o (by omega)) (fun o ho => p76 o (by omega) (by omega))) (RSB_no H.2.2.2.2.2.1 (by rw [← hg, w_up_at]) (g0 15 (by decide)) (g0 16 (by decide)) (by rw [← hp, w_up_at]) (p76 46 (by decide) (by decide)) (p76 47 (by decide) (by decide))) ⟨fun a ha => ?_, fun a ha => ?_, fun a ha => ?_, fun a d ha hd => ?_⟩ (TY_fr H.2.2.2.2.2.2.2.1 (fun z a _ => gq z (by omega) (by omega) (by omega)) (fun q hq => pq q (by omega) (by omega) (by omega))) (fun w hw => by rw [gq 8 (by omega) (by omega) (by omega), pq 1115 (by decide) (by decide) (by decide)]; exact H.2.2.2.1.1 w hw) (pq 1123 (by decide) (by decide) (by decide))⟩, ⟨fun z hz => gq z (by omega) (by omega) (by omega), fun q hq => pq q (by omega) (by omega) (by omega)⟩, Or.inl ⟨by rw [es], p79⟩⟩
    · rw [gq 6 (by decide) (by decide) (by decide), gq 7 (by decide) (by decide) (by decide), pq 1113 (by decide) (by decide) (by decide), pq 1114 (by decide) (by decide) (by decide)]; exact g1 a ha
    · rw [g46, bt_or, bt_one (by omega)] at ha
      by_cases ea : a = w
      · subst ea
        refine ⟨hw, ?_⟩
        rw [← hg, w_up_q (by decide), w_up_q (by decide), w_up_at, ← hp, w_up_q (by decide), w_up_q (by decide), w_up_at]
      · rw [decide_eq_false ea, Bool.or_false] at ha
        refine ⟨(g2 a ha).1, ?_⟩
        rw [← hg, w_up_q (by decide), w_up_q (by decide), w_up_b ea, ← hp, w_up_q (by decide), w_up_q (by decide), w_up_b ea, w_up_q (by decide)]
        exact (g2 a ha).2
    · rw [g46, bt_or, bt_one (by omega)]
      by_cases ea : a = w
      · subst ea
        rw [← hp, w_up_q (by decide), w_up_at]
        exact ⟨by simp, Or.inr rfl⟩
      · rw [decide_eq_false ea, Bool.or_false, ← hp, w_up_q (by decide), w_up_b ea, w_up_q (by decide), w_up_q (by decide)]
        exact g3 a ha
    · rw [gq 10 (by decide) (by decide) (by decide), pq 1118 (by decide) (by decide) (by decide)]; exact g4 a d ha hd
  · have e2' : v_147 y (m 1113 w) (m 1114 w) = 0 := by
      by_cases hh : v_147 y (m 1113 w) (m 1114 w) = 0
      · exact hh
      · exact absurd (q4.mpr hh) e2
    rw [if_pos e2'] at mdl
    refine OUT_x H (id := 0) (e := 2) (v := 0) ?_ ?_ (List.mem_cons_of_mem _ (List.mem_singleton.mpr rfl))
    · unfold p_104
      rw [if_neg e1, q2]
      simp only [w_gd]
      rw [if_neg e2]
    · rw [mdl]
      unfold q_174_22
      rw [go_2 e1 rfl]
      simp only [Option.bind_some, if_true]
end SB2
