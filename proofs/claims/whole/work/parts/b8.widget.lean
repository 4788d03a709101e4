/-! ===== widget ===== -/
section SB8
variable {h h' h1 g m m' m1 p : Hp} {n n' nw k k' B B' b c i l : Nat} {T : List Int32} {lang us x y z : Int32} {s : Nat → Int32}
theorem PL_48 (H : PL h m n k B c) (eh : sch c h h') (em : scm c m m') (e48 : ∀ w, w < 4 → Int32.ofNat w < m 1076 48 → Int32.ofNat w < m' 1076 48) : PL h' m' n k B c := by
  obtain ⟨a1, a2, ⟨a3, e, r, a4, a5, a6, a7, a8⟩, a9⟩ := H
  have X := PL_fr (k' := k) (B' := B) (h' := h') (m' := w_up m' 1076 48 (m 1076 48)) (⟨a1, a2, ⟨a3, e, r, a4, a5, a6, a7, a8⟩, a9⟩ : PL h m n k B c) (Nat.le_refl _) (Nat.le_refl _) eh (by
    obtain ⟨m1, m2, m3, m4, m5, m6⟩ := em
    refine ⟨fun q hq => ?_, fun q o hq ho => ?_, fun q o hq ho => ?_, fun q o hq ho => ?_, fun o ho => ?_, fun kk a d => ?_⟩
    · rw [w_up_q (by omega)]; exact m1 q hq
    · rw [w_up_q (by omega)]; exact m2 q o hq ho
    · rw [w_up_q (by omega)]; exact m3 q o hq ho
    · rw [w_up_q (by omega)]; exact m4 q o hq ho
    · rw [w_up_q (by omega)]; exact m5 o ho
    · obtain ⟨b1, b2, b3, b4, b5⟩ := m6 kk a d
      exact ⟨fun o ho => by rw [w_up_q (by omega)]; exact b1 o ho, by rw [w_up_q (by omega)]; exact b2, fun o ho => by rw [w_up_q (by omega)]; exact b3 o ho, fun o ho => by rw [w_up_q (by omega)]; exact b4 o ho, fun o ho => by rw [w_up_q (by omega)]; exact b5 o ho⟩) w_up_at
  have q : ∀ r, r ≠ 1076 → w_up m' 1076 48 (m 1076 48) r = m' r := fun r hr => funext fun o => w_up_q hr
  obtain ⟨⟨pc, po, F, P, p0⟩, ⟨D, L, d1, d2⟩, ⟨x1, e, r, x2, x3, x4, x5, x6⟩, ⟨y1, y2, y3, y4⟩, ⟨st, s1, s2⟩, z⟩ := X
  rw [q 1081 (by decide)] at P y4
  rw [q 1082 (by decide)] at x1 x4
  rw [q 1089 (by decide)] at x5
  rw [q 1106 (by decide)] at y1 y2 y3 y4
  rw [q 1088 (by decide)] at s2 z
  rw [q 1087 (by decide)] at z
  refine ⟨⟨pc, po, F, PAST_mv P rfl rfl (fun _ _ _ => rfl) (by rw [q 1100 (by decide)]) (fun _ _ _ => ⟨fun _ _ => by rw [q 1101 (by decide)], by rw [q 1102 (by decide)], fun _ _ => by rw [q 1103 (by decide)], fun _ _ => by rw [q 1104 (by decide)], fun _ _ => by rw [q 1105 (by decide)]⟩), p0⟩, ⟨D, L, d1, dr1_fr d2 (fun _ _ => by rw [q 1097 (by decide)]) (by rw [q 1098 (by decide)]) (by rw [q 1096 (by decide)]) (fun _ _ => by rw [q 1095 (by decide)])⟩, ⟨x1, e, r, x2, x3, x4, x5, fun w hw hb => ?_⟩, ⟨y1, y2, y3, fun hh => ?_⟩, ⟨st, s1, s2⟩, z⟩
  · have := x6 w hw (by rw [q 1090 (by decide)]; exact hb)
    rw [w_up_at] at this
    exact e48 w hw this
  · obtain ⟨E, K⟩ := y4 hh
    exact ⟨E, KE_fr K (fun _ _ _ => rfl) (fun _ _ => by rw [q 1107 (by decide)]) (by rw [q 1108 (by decide)]) (fun _ _ => by rw [q 1109 (by decide)]) (fun _ _ => by rw [q 1110 (by decide)]) (fun _ _ => by rw [q 1111 (by decide)])⟩
/-- whether a widget has the name: the class -/
theorem c_89 (hw : h 4 7 = Int32.ofNat nw) (h4 : nw ≤ 4) : ok (w_lp (fun (s : Int32) => l_89_8 h x s) w_N 0) (fun r => ((∃ w, w < nw ∧ h 5 w = x) ∧ r = .inr (-1, h)) ∨ ((∀ w, w < nw → ¬ h 5 w = x) ∧ r = .inl ())) := by
  refine ok_for (fun i s => s = Int32.ofNat i ∧ ∀ w, w < i → ¬ h 5 w = x) nw ⟨rfl, fun w hw => absurd hw (Nat.not_lt_zero _)⟩ (by unfold w_N; omega) ?_ ?_
  · rintro i j hi ⟨rfl, D⟩
    have lt1 : Int32.ofNat i < Int32.ofNat nw := (u_lt (by omega) (by omega)).mpr hi
    unfold l_89_8
    rw [hw, if_pos lt1]
    simp (disch := omega) only [u_ix, u_cl, w_gd]
    by_cases e : h 5 i = x
    · rw [if_pos e]
      exact ok_some (Or.inl ⟨⟨i, hi, e⟩, rfl⟩)
    · rw [if_neg e]
      refine ok_some ⟨u_S i, fun w hw2 => ?_⟩
      by_cases e2 : w = i
      · subst e2; exact e
      · exact D w (by omega)
  · rintro j ⟨rfl, D⟩
    unfold l_89_8
    rw [hw, if_neg (fun hh => Nat.lt_irrefl _ ((u_lt (by omega) (by omega)).mp hh))]
    exact ok_some (Or.inr ⟨D, rfl⟩)
/-- widget -/
theorem call_5 (H : CI b h m) (hb : b + 20 ≤ 1000000) : OUT b h m (p_102 h x y z) (p_171 m x y z) [(0, 1), (1, 2)] := by
  obtain ⟨n, nw, k, H0⟩ := H
  have hk := H0.1.1
  have H := CP_up H0 (B' := b + 20) ⟨by omega, hb⟩
  have h16 := H.2.1.1
  have h4 := H.2.1.2.2.2.1
  have hw : h 4 7 = Int32.ofNat nw := H.2.1.2.2.1
  have hm48 : m 1076 48 = Int32.ofNat nw := H.2.2.1.2.2.2.1
  have mdl0 : ∀ a, (if (v_148 x) = 0 then 0 else (if y < (-1000) then 0 else (if y ≤ z then (if z ≤ 1000 then 1 else 0 : Int32) else 0 : Int32) : Int32) : Int32) = a → p_171 m x y z = q_171_15 m x y z a := fun a ha => by unfold p_171; rw [ha]
  have bad : p_102 h x y z = some (.inr 0, h) → (if (v_148 x) = 0 then 0 else (if y < (-1000) then 0 else (if y ≤ z then (if z ≤ 1000 then 1 else 0 : Int32) else 0 : Int32) : Int32) : Int32) = 0 → OUT b h m (p_102 h x y z) (p_171 m x y z) [(0, 1), (1, 2)] := by
    intro hc h0
    refine OUT_x H (id := 0) (e := 1) (v := 0) hc ?_ (List.mem_cons_self ..)
    rw [mdl0 0 h0]
    have q30 : ∀ s0, q_171_30 m x y z s0 0 = some (0, w_up m 1076 79 1) := fun s0 => by
      unfold q_171_30
      rw [go_1 rfl]
      simp only [Option.bind_some, if_true]
    unfold q_171_15
    rw [hm48]
    by_cases hlt : Int32.ofNat nw < 4
    · rw [if_pos hlt, s_170 hm48 h4]
      simp only [Option.bind_some]
      exact q30 _
    · rw [if_neg hlt]
      exact q30 _
  by_cases e1 : v_123 x = 0
  · exact bad (by unfold p_102; rw [if_pos e1]) (by rw [let_eq, if_pos e1])
  by_cases e2 : y < -1000
  · exact bad (by unfold p_102; rw [if_neg e1, if_pos e2]) (by rw [let_eq, if_neg e1, if_pos e2])
  by_cases e3 : y ≤ z
  · have nlt : ¬ z < y := fun hh => by
      have h1 := Int32.lt_iff_toInt_lt.mp hh
      have h2 := Int32.le_iff_toInt_le.mp e3
      omega
    by_cases e4 : z ≤ 1000
    · have yle : y ≤ 1000 := by
        have h1 := Int32.le_iff_toInt_le.mp e3
        have h2 := Int32.le_iff_toInt_le.mp e4
        exact Int32.le_iff_toInt_le.mpr (by omega)
      have ha : (if (v_148 x) = 0 then 0 else (if y < (-1000) then 0 else (if y ≤ z then (if z ≤ 1000 then 1 else 0 : Int32) else 0 : Int32) : Int32) : Int32) = 1 := by rw [let_eq, if_neg e1, if_neg e2, if_pos e3, if_pos e4]
      have mdl := mdl0 1 ha
      have cls : p_102 h x y z = (p_89 h (x - 97) y z).bind fun vz6 => if vz6.1 = (-1) then (some ((.inr 1), vz6.2)) else ((p_129 vz6.2).bind fun vz8 => (p_130 vz8).bind fun vz9 => some ((.inl vz6.1), vz9)) := by
        unfold p_102
        rw [if_neg e1, if_neg e2, if_pos yle, if_neg nlt, if_pos e4]
      have hL : isL x = true := by
        rw [s_123] at e1
        cases hL : isL x with
        | true => rfl
        | false => rw [hL] at e1; exact absurd rfl e1
      obtain ⟨l, hl, rfl, el⟩ := L_nat hL
      rw [el] at cls
      -- there is no room, or the name is there
      have full : p_89 h (Int32.ofNat l) y z = some (-1, h) → (∀ s1, q_171_15 m (Int32.ofNat (97 + l)) y z 1 = some s1 → s1 = (0, w_up m 1076 79 2)) → q_171_15 m (Int32.ofNat (97 + l)) y z 1 = some (0, w_up m 1076 79 2) → OUT b h m (p_102 h (Int32.ofNat (97 + l)) y z) (p_171 m (Int32.ofNat (97 + l)) y z) [(0, 1), (1, 2)] := by
        intro hc _ hq
        refine OUT_x H (id := 1) (e := 2) (v := 0) ?_ (by rw [mdl]; exact hq) (List.mem_cons_of_mem _ (List.mem_singleton.mpr rfl))
        rw [cls, hc]
        simp only [Option.bind_some, if_true]
      have q30 : q_171_30 m (Int32.ofNat (97 + l)) y z 0 1 = some (0, w_up m 1076 79 2) := by
        unfold q_171_30
        rw [go_2 no10 rfl]
        simp only [Option.bind_some, if_true]
      by_cases e5 : nw < 4
      · have hlt : Int32.ofNat nw < 4 := (u_ltL (n := 4) (by omega) (by decide)).mpr e5
        have m15 : q_171_15 m (Int32.ofNat (97 + l)) y z 1 = q_171_30 m (Int32.ofNat (97 + l)) y z (if oi (lst (fun w => decide (m 1112 w = Int32.ofNat (97 + l))) nw) = (-1) then 1 else 0 : Int32) 1 := by
          unfold q_171_15
          rw [hm48, if_pos hlt, s_170 hm48 h4]
          rfl
        obtain ⟨r, r1, r2⟩ := c_89 (x := Int32.ofNat l) hw h4
        rw [mw_w H.2.2.1 hl] at m15
        rcases r2 with ⟨⟨w, w1, w2⟩, rfl⟩ | ⟨w1, rfl⟩
        · have hne : ¬ oi (lst (fun w => decide (h 5 w = Int32.ofNat l)) nw) = -1 := by
            cases hls : lst (fun w => decide (h 5 w = Int32.ofNat l)) nw with
            | none =>
              have := lst_none nw hls w w1
              rw [decide_eq_true w2] at this; cases this
            | some j => exact m1_ne (by have := (lst_lt nw hls).1; omega)
          rw [if_neg hne] at m15
          have hc : p_89 h (Int32.ofNat l) y z = some (-1, h) := by
            unfold p_89
            rw [hw, if_pos hlt, r1]
            rfl
          exact full hc (fun s1 hs => by rw [m15, q30] at hs; cases hs; rfl) (by rw [m15, q30])
        · have hno : lst (fun w => decide (h 5 w = Int32.ofNat l)) nw = none := by
            cases hls : lst (fun w => decide (h 5 w = Int32.ofNat l)) nw with
            | none => rfl
            | some j =>
              obtain ⟨j1, j2⟩ := lst_lt nw hls
              exact absurd (of_decide_eq_true j2) (w1 j j1)
          rw [hno, if_pos (show oi none = -1 from rfl)] at m15
          generalize hg1 : w_up (w_up (w_up (w_up (w_up h 5 nw (Int32.ofNat l)) 6 nw y) 7 nw z) 8 nw y) 4 7 (Int32.ofNat (nw + 1)) = g1
          have hc : p_89 h (Int32.ofNat l) y z = some (Int32.ofNat nw, g1) := by
            unfold p_89
            rw [hw, if_pos hlt, r1]
            show (w_gd (w_ix (Int32.ofNat nw) 4) <| _) = _
            simp (disch := omega) only [u_ix, u_cl, w_gd, w_let, w_up_q, hw, u_S]
            rw [hg1, ← hg1, w_up_at, show Int32.ofNat (nw + 1) - 1 = Int32.ofNat nw from by
              have := u_subL (a := nw + 1) (n := 1) (by omega)
              rw [Nat.add_sub_cancel] at this; exact this]
          have g1q : ∀ q, q ≠ 4 → ¬ (5 ≤ q ∧ q ≤ 8) → g1 q = h q := fun q a d => by rw [← hg1]; funext o; rw [w_up_q a, w_up_q (by omega), w_up_q (by omega), w_up_q (by omega), w_up_q (by omega)]
          have g147 : g1 4 7 = Int32.ofNat (nw + 1) := by rw [← hg1, w_up_at]
          have g14 : ∀ o, o ≠ 7 → g1 4 o = h 4 o := fun o ho => by rw [← hg1, w_up_b ho, w_up_q (by decide), w_up_q (by decide), w_up_q (by decide), w_up_q (by decide)]
          have g15 : ∀ o, g1 5 o = if o = nw then Int32.ofNat l else h 5 o := fun o => by
            rw [← hg1, w_up_q (by decide), w_up_q (by decide), w_up_q (by decide), w_up_q (by decide)]
            by_cases e : o = nw
            · subst e; rw [w_up_at, if_pos rfl]
            · rw [w_up_b e, if_neg e]
          have g16 : ∀ o, g1 6 o = if o = nw then y else h 6 o := fun o => by
            rw [← hg1, w_up_q (by decide), w_up_q (by decide), w_up_q (by decide)]
            by_cases e : o = nw
            · subst e; rw [w_up_at, if_pos rfl]
            · rw [w_up_b e, if_neg e, w_up_q (by decide)]
          have g17 : ∀ o, g1 7 o = if o = nw then z else h 7 o := fun o => by
            rw [← hg1, w_up_q (by decide), w_up_q (by decide)]
            by_cases e : o = nw
            · subst e; rw [w_up_at, if_pos rfl]
            · rw [w_up_b e, if_neg e, w_up_q (by decide), w_up_q (by decide)]
          have g18 : ∀ o, g1 8 o = if o = nw then y else h 8 o := fun o => by
            rw [← hg1, w_up_q (by decide)]
            by_cases e : o = nw
            · subst e; rw [w_up_at, if_pos rfl]
            · rw [w_up_b e, if_neg e, w_up_q (by decide), w_up_q (by decide), w_up_q (by decide)]
          obtain ⟨g, v1, v2, v3, v4, v5⟩ := weave_ok (h := g1) (n := n) (nw := nw + 1) h16 (by rw [g1q 0 (by decide) (by omega)]; exact H.2.1.2.1) g147 (by omega)
          have gq : ∀ q, q ≠ 0 → q ≠ 4 → ¬ (5 ≤ q ∧ q ≤ 8) → ¬ (11 ≤ q ∧ q ≤ 16) → g q = h q := fun q a d e f => by rw [v3 q a f, g1q q d e]
          have g0 : ∀ o, o ≠ 17 → g 0 o = h 0 o := fun o ho => by rw [v5 o ho, g1q 0 (by decide) (by omega)]
          generalize hp : w_up (w_up (w_up (w_up (w_up (w_up (w_up m 1076 79 0) 1076 48 (Int32.ofNat (nw + 1))) 1112 nw (Int32.ofNat (97 + l))) 1113 nw y) 1114 nw z) 1115 nw y) 1076 45 0 = p
          have pq : ∀ q, q ≠ 1076 → ¬ (1112 ≤ q ∧ q ≤ 1115) → p q = m q := fun q a d => by rw [← hp]; funext o; rw [w_up_q a, w_up_q (by omega), w_up_q (by omega), w_up_q (by omega), w_up_q (by omega), w_up_q a, w_up_q a]
          have p76 : ∀ o, o ≠ 79 → o ≠ 48 → o ≠ 45 → p 1076 o = m 1076 o := fun o a d e => by rw [← hp, w_up_b e, w_up_q (by decide), w_up_q (by decide), w_up_q (by decide), w_up_q (by decide), w_up_b d, w_up_b a]
          have p48 : p 1076 48 = Int32.ofNat (nw + 1) := by rw [← hp, w_up_b (by decide), w_up_q (by decide), w_up_q (by decide), w_up_q (by decide), w_up_q (by decide), w_up_at]
          have p45 : p 1076 45 = 0 := by rw [← hp, w_up_at]
          have p79 : p 1076 79 = 0 := by rw [← hp, w_up_b (by decide), w_up_q (by decide), w_up_q (by decide), w_up_q (by decide), w_up_q (by decide), w_up_b (by decide), w_up_at]
          have p12 : ∀ o, p 1112 o = if o = nw then Int32.ofNat (97 + l) else m 1112 o := fun o => by
            rw [← hp, w_up_q (by decide), w_up_q (by decide), w_up_q (by decide), w_up_q (by decide)]
            by_cases e : o = nw
            · subst e; rw [w_up_at, if_pos rfl]
            · rw [w_up_b e, if_neg e, w_up_q (by decide), w_up_q (by decide)]
          have p13 : ∀ o, p 1113 o = if o = nw then y else m 1113 o := fun o => by
            rw [← hp, w_up_q (by decide), w_up_q (by decide), w_up_q (by decide)]
            by_cases e : o = nw
            · subst e; rw [w_up_at, if_pos rfl]
            · rw [w_up_b e, if_neg e, w_up_q (by decide), w_up_q (by decide), w_up_q (by decide)]
          have p14 : ∀ o, p 1114 o = if o = nw then z else m 1114 o := fun o => by
            rw [← hp, w_up_q (by decide), w_up_q (by decide)]
            by_cases e : o = nw
            · subst e; rw [w_up_at, if_pos rfl]
            · rw [w_up_b e, if_neg e, w_up_q (by decide), w_up_q (by decide), w_up_q (by decide), w_up_q (by decide)]
          have p15 : ∀ o, p 1115 o = if o = nw then y else m 1115 o := fun o => by
            rw [← hp, w_up_q (by decide)]
            by_cases e : o = nw
            · subst e; rw [w_up_at, if_pos rfl]
            · rw [w_up_b e, if_neg e, w_up_q (by decide), w_up_q (by decide), w_up_q (by decide), w_up_q (by decide), w_up_q (by decide)]
          obtain ⟨-, J, W, R, S, Q, G, Y, P, C, V, V2, U⟩ := H
          have sc : ∀ c, c < 16 → sch c h g := fun c hc q a d e => gq q (by omega) (by omega) (by omega) (by omega)
          have sm : ∀ c, scm c m p := fun c => by
            refine ⟨fun q hq => ?_, fun q b hq hb => ?_, fun q b hq hb => ?_, fun q b hq hb => ?_, fun b hb => ?_, fun k a b => ⟨fun b hb => ?_, ?_, fun b hb => ?_, fun b hb => ?_, fun b hb => ?_⟩⟩
            all_goals rw [pq _ (by omega) (by omega)]
          have HC : CP g p n (nw + 1) k (b + 20) := by
            refine ⟨⟨by omega, hb⟩, v2, ⟨h16, by omega, ?_, p48, fun c hc => ?_, fun w hw2 => ?_, fun w w' hw2 hw3 he => ?_⟩, ⟨fun w hw2 => ?_, fun c hc => ?_, fun c j hc hj hne => ?_⟩, SCL_fr S ⟨by rw [gq 40 (by omega) (by omega) (by omega) (by omega)], by rw [gq 40 (by omega) (by omega) (by omega) (by omega)]⟩ (fun o ho => g0 o (by omega)) (fun o ho => p76 o (by omega) (by omega) (by omega)), RSB_no Q v4 (g0 15 (by decide)) (g0 16 (by decide)) p45 (p76 46 (by decide) (by decide) (by decide)) (p76 47 (by decide) (by decide) (by decide)), ⟨fun w hw2 => ?_, fun w hw2 => ?_, fun w hw2 => ?_, fun a d ha hd => ?_⟩, TY_fr Y (fun q a _ => gq q (by omega) (by omega) (by omega) (by omega)) (fun q hq => pq q (by omega) (by omega)), fun c hc => PL_48 (P c hc) (sc c hc) (sm c) (fun w hw2 hh => ?_), fun c hc => CT_fr (C c hc) (sc c (by omega)) (sm c), fun j q hj hq => ?_, fun j q hj hq => ?_, fun c hc a1 a2 x hx hux => ?_⟩
            · rw [p76 2 (by decide) (by decide) (by decide)]; exact W.2.2.1
            · rw [pq 1083 (by decide) (by omega), pq 1084 (by decide) (by omega), pq 1085 (by decide) (by omega), gq (64 * c + 55) (by omega) (by omega) (by omega) (by omega)]; exact W.2.2.2.2.1 c hc
            · rw [v3 5 (by omega) (by omega), g15, p12]
              by_cases e : w = nw
              · rw [if_pos e, if_pos e]; exact ⟨l, hl, rfl, rfl⟩
              · rw [if_neg e, if_neg e]; exact W.2.2.2.2.2.1 w (by omega)
            · rw [v3 5 (by omega) (by omega), g15, g15] at he
              by_cases e : w = nw
              · by_cases e' : w' = nw
                · omega
                · rw [if_pos e, if_neg e'] at he; exact absurd he.symm (w1 w' (by omega))
              · by_cases e' : w' = nw
                · rw [if_neg e, if_pos e'] at he; exact absurd he (w1 w (by omega))
                · rw [if_neg e, if_neg e'] at he; exact W.2.2.2.2.2.2 w w' (by omega) (by omega) he
            · rw [v3 8 (by omega) (by omega), g18, p15]
              by_cases e : w = nw
              · rw [if_pos e, if_pos e]
              · rw [if_neg e, if_neg e]; exact R.1 w (by omega)
            · have e52 : g (64 * c + 52) = h (64 * c + 52) := sc c (by omega) _ (by omega) (by omega) (by omega)
              have e79 : g (64 * c + 79) = h (64 * c + 79) := sc c (by omega) _ (by omega) (by omega) (by omega)
              obtain ⟨q1, q2, q3, q4⟩ := R.2.1 c hc
              rw [e52, e79, pq 1087 (by decide) (by omega), pq 1089 (by decide) (by omega), pq 1082 (by decide) (by omega), pq 1088 (by decide) (by omega), pq 1090 (by decide) (by omega), pq 1091 (by decide) (by omega)]
              refine ⟨q1, q2, q3, fun hh => ?_⟩
              obtain ⟨t1, t2, t3, t4⟩ := q4 hh
              refine ⟨t1, t2, fun w hw2 hbt => ?_, t4⟩
              by_cases e : w = nw
              · obtain ⟨-, -, ⟨-, e, r, -, -, -, -, nb⟩, -⟩ := P c (by omega)
                have := nb w (by omega) hbt
                rw [hm48, u_lt (by omega) (by omega)] at this
                omega
              · exact t3 w (by omega) hbt
            · rw [pq 1088 (by decide) (by omega)]; exact R.2.2 c j hc hj hne
            · rw [v3 6 (by omega) (by omega), v3 7 (by omega) (by omega), g16, g17, p13, p14]
              by_cases e : w = nw
              · rw [if_pos e, if_pos e, if_pos e, if_pos e]; exact ⟨rfl, rfl, e3⟩
              · rw [if_neg e, if_neg e, if_neg e, if_neg e]; exact G.1 w (by omega)
            · rw [v3 4 (by omega) (by omega), g14 6 (by decide)] at hw2
              have := G.2.1 w hw2
              rw [gq 9 (by omega) (by omega) (by omega) (by omega), pq 1116 (by decide) (by omega)]
              exact ⟨by omega, this.2⟩
            · rw [v3 4 (by omega) (by omega), g14 6 (by decide), pq 1117 (by decide) (by omega)]
              exact G.2.2.1 w hw2
            · rw [gq 10 (by omega) (by omega) (by omega) (by omega), pq 1118 (by decide) (by omega)]
              obtain ⟨u1, u2, u3⟩ := G.2.2.2 a d ha hd
              exact ⟨u1, u2, fun hh => u3 (by omega)⟩
            · rw [hm48, u_lt (by omega) (by omega)] at hh
              rw [p48, u_lt (by omega) (by omega)]; omega
            · obtain ⟨v, hv⟩ := V j q hj hq
              exact ⟨v, mv_fr hv (fun _ _ _ => by rw [pq 1093 (by decide) (by omega)])⟩
            · obtain ⟨v, hv⟩ := V2 j q hj hq
              exact ⟨v, mv_fr hv (fun _ _ _ => by rw [pq 1123 (by decide) (by omega)])⟩
            · have e52 : ∀ j, j < 16 → g (64 * j + 52) = h (64 * j + 52) := fun j hj => gq _ (by omega) (by omega) (by omega) (by omega)
              have e55 : ∀ j, j < 16 → g (64 * j + 55) = h (64 * j + 55) := fun j hj => gq _ (by omega) (by omega) (by omega) (by omega)
              rw [e52 c (by omega)] at a1 a2
              rw [e55 c (by omega)] at hux
              rcases U c hc a1 a2 x hx hux with ⟨w, u1, u2⟩ | ⟨j, j1, j2, j3, j4⟩
              · exact Or.inl ⟨w, by omega, by rw [v3 5 (by omega) (by omega), g15, if_neg (by omega)]; exact u2⟩
              · refine Or.inr ⟨j, j1, j2, by rw [e52 c (by omega)]; exact j3, ?_⟩
                rw [e52 j (by omega), e52 c (by omega), e55 j (by omega), e55 c (by omega)]; exact j4
          obtain ⟨h5, m5, k5, z1, z2, H5, z4, R5⟩ := at_once HC (by omega)
          refine ⟨.inl (Int32.ofNat nw), h5, Int32.ofNat nw, m5, ?_, ?_, ⟨n, nw + 1, k5, H5⟩, EF_trans ⟨fun q hq => gq q (by omega) (by omega) (by omega) (by omega), fun q hq => pq q (by omega) (by omega)⟩ (EF_RN R5), Or.inl ⟨rfl, by rw [R5.2.2.1]; exact p79⟩⟩
          · rw [cls, hc]
            simp only [Option.bind_some]
            rw [if_neg (m1_ne (by omega)), v1]
            simp only [Option.bind_some]
            rw [z1]
            rfl
          · rw [mdl, m15]
            unfold q_171_30
            rw [go_0 no10 no10 no10]
            simp only [Option.bind_some, no10, if_false]
            have ew : (w_up m 1076 79 0) 1076 48 = Int32.ofNat nw := by rw [w_up_b (by decide)]; exact hm48
            rw [ew]
            simp (disch := omega) only [u_ix, u_cl, w_gd, w_let, u_S]
            rw [hp, z2]
            rfl
      · have hlt : ¬ Int32.ofNat nw < 4 := fun hh => e5 ((u_ltL (n := 4) (by omega) (by decide)).mp hh)
        have m15 : q_171_15 m (Int32.ofNat (97 + l)) y z 1 = q_171_30 m (Int32.ofNat (97 + l)) y z 0 1 := by
          unfold q_171_15
          rw [hm48, if_neg hlt]
          rfl
        exact full (by unfold p_89; rw [hw, if_neg hlt]) (fun s1 hs => by rw [m15, q30] at hs; cases hs; rfl) (by rw [m15, q30])
    · refine bad ?_ (by rw [let_eq, if_neg e1, if_neg e2, if_pos e3, if_neg e4])
      unfold p_102
      rw [if_neg e1, if_neg e2]
      by_cases e5 : y ≤ 1000
      · rw [if_pos e5, if_neg nlt, if_neg e4]
      · rw [if_neg e5]
  · refine bad ?_ (by rw [let_eq, if_neg e1, if_neg e2, if_neg e3])
    have lt : z < y := by
      refine Int32.lt_iff_toInt_lt.mpr ?_
      have h2 : ¬ y.toInt ≤ z.toInt := fun hh => e3 (Int32.le_iff_toInt_le.mpr hh)
      omega
    unfold p_102
    rw [if_neg e1, if_neg e2]
    by_cases e5 : y ≤ 1000
    · rw [if_pos e5, if_pos lt]
    · rw [if_neg e5]
end SB8
