/-! ===== checkpoint, the call ===== -/
section SC0
variable {h h' h1 g m m' m1 p : Hp} {n nw k k' B B' b c i l : Nat} {T : List Int32} {lang us x y z : Int32} {s : Nat → Int32}
theorem UH_fr2 (U : UH h n nw c) (hc : c < 16) (e5 : h' 5 = h 5) (e52 : ∀ j b, j < 16 → b ≠ 16 → h' (64 * j + 52) b = h (64 * j + 52) b) (e55 : ∀ j, j < 16 → h' (64 * j + 55) = h (64 * j + 55)) (h16 : n ≤ 16) : UH h' n nw c := by
  intro a1 a2 x hx hu
  rw [e52 c _ hc (by decide)] at a1 a2
  rw [e55 c hc] at hu
  rcases U a1 a2 x hx hu with ⟨w, w1, w2⟩ | ⟨j, j1, j2, j3, j4⟩
  · exact Or.inl ⟨w, w1, by rw [e5]; exact w2⟩
  · refine Or.inr ⟨j, j1, j2, by rw [e52 c _ hc (by decide)]; exact j3, ?_⟩
    rw [e52 j _ (by omega) (by decide), e52 c _ hc (by decide), e52 j _ (by omega) (by decide), e55 j (by omega), e55 c hc]; exact j4
/-- something is kept of the cell c, or not: all is coupled again -/
theorem save_cp (H : CP h m n nw k B) (hcn : c < n)
    (gq : ∀ z, z ≠ 46 → z ≠ 47 → z ≠ 64 * c + 52 → ¬ (64 * c + 70 ≤ z ∧ z ≤ 64 * c + 78) → g z = h z) (gb : ∀ o, o ≠ 16 → g (64 * c + 52) o = h (64 * c + 52) o)
    (pq : ∀ q, ¬ (1106 ≤ q ∧ q ≤ 1111) → q ≠ 1132 → p q = m q)
    (ps : ∀ j, j ≠ c → p 1106 j = m 1106 j ∧ (∀ b, b < 40 → p 1107 (40 * j + b) = m 1107 (40 * j + b)) ∧ p 1108 j = m 1108 j ∧ (∀ b, b < 234 → p 1109 (234 * j + b) = m 1109 (234 * j + b)) ∧ (∀ b, b < 234 → p 1110 (234 * j + b) = m 1110 (234 * j + b)) ∧ ∀ b, b < 9 → p 1111 (9 * j + b) = m 1111 (9 * j + b))
    (s1 : g (64 * c + 52) 16 = p 1106 c) (s2 : p 1106 c = 0 ∨ p 1106 c = 1) (s3 : ¬ p 1106 c = 0 → ∃ E, KE g p (64 * c + 69) 1107 1108 1109 1110 1111 c (m 1081 c) E) : CP g p n nw k B := by
  obtain ⟨bb, J, W, R, S, Q, G, Y, P, C, V, V2, U⟩ := H
  have h16 := J.1
  have c16 : c < 16 := by omega
  have ec : ∀ j, j < 16 → g (64 * j + 55) = h (64 * j + 55) := fun j hj => gq _ (by omega) (by omega) (by omega) (by omega)
  have e52 : ∀ j o, j < 16 → o ≠ 16 → g (64 * j + 52) o = h (64 * j + 52) o := fun j o hj ho => by
    by_cases e : j = c
    · subst e; exact gb o ho
    · rw [gq _ (by omega) (by omega) (by omega) (by omega)]
  have sc : ∀ j, j < 16 → j ≠ c → sch j h g := fun j hj hne z a d e => gq z (by omega) (by omega) (by omega) (by omega)
  have sm : ∀ j, j ≠ c → scm j m p := fun j hne => by
    obtain ⟨z1, z2, z3, z4, z5, z6⟩ := ps j hne
    refine ⟨fun q hq => ?_, fun q b hq hb => ?_, fun q b hq hb => ?_, fun q b hq hb => ?_, fun b hb => ?_, fun k a b => ⟨fun b hb => ?_, ?_, fun b hb => ?_, fun b hb => ?_, fun b hb => ?_⟩⟩
    · by_cases e : q = 1106
      · subst e; exact z1
      by_cases e2 : q = 1108
      · subst e2; exact z3
      · rw [pq q (by omega) (by omega)]
    · by_cases e : q = 1107
      · subst e; exact z2 b hb
      · rw [pq q (by omega) (by omega)]
    · by_cases e : q = 1109
      · subst e; exact z4 b hb
      by_cases e2 : q = 1110
      · subst e2; exact z5 b hb
      · rw [pq q (by omega) (by omega)]
    · by_cases e : q = 1111
      · subst e; exact z6 b hb
      · rw [pq q (by omega) (by omega)]
    all_goals rw [pq _ (by omega) (by omega)]
  have m76 : p 1076 = m 1076 := pq 1076 (by omega) (by omega)
  refine ⟨bb, JOK_fr J (by rw [gq 0 (by omega) (by omega) (by omega) (by omega)]) (by rw [gq 4 (by omega) (by omega) (by omega) (by omega)]) (gq 5 (by omega) (by omega) (by omega) (by omega)) (fun z a d => gq z (by omega) (by omega) (by omega) (by omega)) ec, MW_eq W (gq 5 (by omega) (by omega) (by omega) (by omega)) ec (by rw [m76]) (by rw [m76]) (fun q hq => pq q (by omega) (by omega)), ⟨fun w hw => ?_, fun j hj => ?_, fun i j hi hj hne => ?_⟩, SCL_fr S ⟨by rw [gq 40 (by omega) (by omega) (by omega) (by omega)], by rw [gq 40 (by omega) (by omega) (by omega) (by omega)]⟩ (fun o _ => by rw [gq 0 (by omega) (by omega) (by omega) (by omega)]) (fun o _ => by rw [m76]), ?_, WG_fr G (by rw [gq 4 (by omega) (by omega) (by omega) (by omega)]) (fun z hz => gq z (by omega) (by omega) (by omega) (by omega)) (fun q hq => pq q (by omega) (by omega)), TY_fr Y (fun z a d => gq z (by omega) (by omega) (by omega) (by omega)) (fun q hq => pq q (by omega) (by omega)), fun j hj => ?_, fun j hj => ?_, fun j x hj hx => ?_, fun j x hj hx => ?_, fun j hj => UH_fr2 (U j hj) (by omega) (gq 5 (by omega) (by omega) (by omega) (by omega)) e52 ec h16⟩
  · rw [gq 8 (by omega) (by omega) (by omega) (by omega), pq 1115 (by omega) (by omega)]; exact R.1 w hw
  · have e79 : g (64 * j + 79) = h (64 * j + 79) := gq _ (by omega) (by omega) (by omega) (by omega)
    obtain ⟨q1, q2, q3, q4⟩ := R.2.1 j hj
    rw [e52 j 15 (by omega) (by decide), e52 j 14 (by omega) (by decide), e52 j 13 (by omega) (by decide), e52 j 11 (by omega) (by decide), e79, pq 1087 (by omega) (by omega), pq 1089 (by omega) (by omega), pq 1082 (by omega) (by omega), pq 1088 (by omega) (by omega), pq 1090 (by omega) (by omega), pq 1091 (by omega) (by omega)]
    exact ⟨q1, q2, q3, q4⟩
  · rw [pq 1088 (by omega) (by omega)]; exact R.2.2 i j hi hj hne
  · obtain ⟨q1, q2, q3, q4, q5⟩ := Q
    have e0 : g 0 = h 0 := gq 0 (by omega) (by omega) (by omega) (by omega)
    refine ⟨by rw [e0, m76]; exact q1, by rw [e0]; exact q2, by rw [e0, m76]; exact q3, by rw [e0, m76]; exact q4, fun hh j hj => ?_⟩
    rw [e52 j 15 (by omega) (by decide), pq 1100 (by omega) (by omega)]
    exact q5 (by rw [← e0]; exact hh) j hj
  · by_cases ej : j = c
    · subst ej
      obtain ⟨⟨pc, po, F, PP, p0⟩, ⟨D, L, d1, d2⟩, ⟨x1, e, r, x2, x3, x4, x5, x6⟩, -, ⟨st, st1, st2⟩, z⟩ := P j hj
      have la : p 1081 j = m 1081 j := by rw [pq 1081 (by omega) (by omega)]
      refine ⟨⟨pc, po, F, ?_, p0⟩, ⟨D, L, drc_fr d1 (fun z a d => gq z (by omega) (by omega) (by omega) (by omega)), dr1_fr d2 (fun _ _ => by rw [pq 1097 (by omega) (by omega)]) (by rw [pq 1098 (by omega) (by omega)]) (by rw [pq 1096 (by omega) (by omega)]) (fun _ _ => by rw [pq 1095 (by omega) (by omega)])⟩, ⟨by rw [gb 10 (by decide), pq 1082 (by omega) (by omega)]; exact x1, e, r, x2, x3, by rw [pq 1082 (by omega) (by omega)]; exact x4, by rw [pq 1089 (by omega) (by omega)]; exact x5, fun w hw hb => ?_⟩, ⟨s1, s2, fun hh => absurd hh (by omega), fun hh => by rw [la]; exact s3 hh⟩, ⟨st, st1, by rw [pq 1088 (by omega) (by omega)]; exact st2⟩, fun hh => absurd hh (by omega)⟩
      · rw [la]
        exact PAST_mv PP (gb 8 (by decide)) (gb 9 (by decide)) (fun z a d => gq z (by omega) (by omega) (by omega) (by omega)) (by rw [pq 1100 (by omega) (by omega)]) (fun _ _ _ => ⟨fun _ _ => by rw [pq 1101 (by omega) (by omega)], by rw [pq 1102 (by omega) (by omega)], fun _ _ => by rw [pq 1103 (by omega) (by omega)], fun _ _ => by rw [pq 1104 (by omega) (by omega)], fun _ _ => by rw [pq 1105 (by omega) (by omega)]⟩)
      · rw [pq 1090 (by omega) (by omega)] at hb
        rw [m76]; exact x6 w hw hb
    · exact PL_fr (P j hj) (Nat.le_refl _) (Nat.le_refl _) (sc j hj ej) (sm j ej) (by rw [m76])
  · by_cases ej : j = c
    · subst ej
      obtain ⟨T, CE, O⟩ := C j hj
      unfold CT
      rw [pq 1081 (by omega) (by omega), gb 15 (by decide)]
      refine ⟨T, cel_fr CE (fun kk hk => gq _ (by omega) (by omega) (by omega) (by omega)) (gb 10 (by decide)) ⟨by rw [pq 1080 (by omega) (by omega)], by rw [pq 1081 (by omega) (by omega)], by rw [pq 1082 (by omega) (by omega)], by rw [pq 1083 (by omega) (by omega)], by rw [pq 1084 (by omega) (by omega)], by rw [pq 1085 (by omega) (by omega)], by rw [pq 1086 (by omega) (by omega)]⟩ (fun o _ _ => by rw [pq 1079 (by omega) (by omega)]), fun hh => ?_⟩
      obtain ⟨o1, o2⟩ := O hh
      refine ⟨fun h0 => ?_, fun h0 => ?_⟩
      · rw [gb 11 (by decide)] at h0
        obtain ⟨b1, V, g1, g2, g3, g4⟩ := o1 h0
        exact ⟨by rw [pq 1092 (by omega) (by omega)]; exact b1, V, fun x hx => cv_fr (g1 x hx) (gq _ (by omega) (by omega) (by omega) (by omega)) (gq _ (by omega) (by omega) (by omega) (by omega)), fun x hx => mv_fr (g2 x hx) (fun _ _ _ => by rw [pq 1093 (by omega) (by omega)]), mv_fr g3 (fun _ _ _ => by rw [pq 1094 (by omega) (by omega)]), g4⟩
      · rw [gb 11 (by decide)] at h0 ⊢
        rw [gb 12 (by decide), pq 1092 (by omega) (by omega)]; exact o2 h0
    · exact CT_fr (C j hj) (sc j (by omega) ej) (sm j ej)
  · obtain ⟨v, hv⟩ := V j x hj hx
    exact ⟨v, mv_fr hv (fun _ _ _ => by rw [pq 1093 (by omega) (by omega)])⟩
  · obtain ⟨v, hv⟩ := V2 j x hj hx
    exact ⟨v, mv_fr hv (fun _ _ _ => by rw [pq 1123 (by omega) (by omega)])⟩
/-- the states stay where only what is kept changes -/
theorem save_st (hs : isSt n (ndc h n nw) (twh h n nw 26) (own h n nw) s) (gq : ∀ z, z ≠ 46 → z ≠ 47 → z ≠ 64 * c + 52 → ¬ (64 * c + 70 ≤ z ∧ z ≤ 64 * c + 78) → g z = h z) (gb : ∀ o, o ≠ 16 → g (64 * c + 52) o = h (64 * c + 52) o) : isSt n (ndc g n nw) (twh g n nw 26) (own g n nw) s ∧ ndh g n nw = ndh h n nw ∧ twh g n nw = twh h n nw := by
  obtain ⟨a, b⟩ := RN_55 (n := n) (nw := nw) (h := h) (h' := g) (gq 5 (by omega) (by omega) (by omega) (by omega)) (fun j => gq _ (by omega) (by omega) (by omega) (by omega))
  have e2 : ndc g n nw = ndc h n nw := by funext c j; unfold ndc; rw [a]
  have e3 : own g n nw = own h n nw := own_eq (gq 8 (by omega) (by omega) (by omega) (by omega)) (gq 14 (by omega) (by omega) (by omega) (by omega)) e2 (fun j o ho => by
    by_cases e : 64 * j + 52 = 64 * c + 52
    · rw [e]; exact gb o ho
    · rw [gq _ (by omega) (by omega) e (by omega)]) (fun j => gq _ (by omega) (by omega) (by omega) (by omega))
  exact ⟨by rw [e2, e3, b]; exact hs, a, b⟩
theorem lp_F {x2 x4 : Int32} : w_lp (fun (s : Int32 × Int32) => l_227_34 m x2 s.1 s.2) w_N (0, x4) = some 0 := by
  refine lp_r (N := 4999) (t := ((0 : Int32), x4)) ?_
  show l_227_34 m x2 0 x4 = _
  unfold l_227_34
  by_cases e : x4 < 26
  · rw [if_pos e, if_pos rfl]
  · rw [if_neg e]
theorem lp_G {x2 x4 : Int32} : w_lp (fun (s : Int32 × Int32) => l_227_58 m x2 s.1 s.2) w_N (0, x4) = some 0 := by
  refine lp_r (N := 4999) (t := ((0 : Int32), x4)) ?_
  show l_227_58 m x2 0 x4 = _
  unfold l_227_58
  rw [if_pos rfl]
/-- one cell of the checkpoint -/
theorem ck_step (H : CP h m n nw k B) (hs : isSt n (ndc h n nw) (twh h n nw 26) (own h n nw) s) (hc : c < n) (e3 : h 3 c = s c) (e22 : m 1122 c = s c) : ∃ y g p, l_108_6 x (Int32.ofNat c) h = some (.inl (y, Int32.ofNat (c + 1), g)) ∧ l_227_9 x (Int32.ofNat c) m = some (.inl (y, Int32.ofNat (c + 1), p)) ∧ CP g p n nw k B ∧ isSt n (ndc g n nw) (twh g n nw 26) (own g n nw) s ∧ RN n nw h m g p ∧ g 3 = h 3 ∧ p 1122 = m 1122 := by
  have h16 := H.2.1.1
  have c16 : c < 16 := by omega
  obtain ⟨T, C, O⟩ := H.2.2.2.2.2.2.2.2.2.1 c hc
  have lt1 : Int32.ofNat c < Int32.ofNat n := (u_lt (by omega) (by omega)).mpr hc
  have lt16 : Int32.ofNat c < 16 := (u_ltL (n := 16) (by omega) (by decide)).mpr c16
  have hn : h 0 10 = Int32.ofNat n := H.2.1.2.1
  have hmn : m 1076 2 = Int32.ofNat n := H.2.2.1.2.2.1
  have e9c : (9 : Int32) * Int32.ofNat c = Int32.ofNat (9 * c) := u_Lmul c 9
  have e40c : (40 : Int32) * Int32.ofNat c = Int32.ofNat (40 * c) := u_Lmul c 40
  have e234c : (234 : Int32) * Int32.ofNat c = Int32.ofNat (234 * c) := u_Lmul c 234
  -- nothing is kept
  have none_ : l_108_6 x (Int32.ofNat c) h = q_108_38 h x (Int32.ofNat c) (64 * c + 52) 0 (64 * c + 52) → l_227_9 x (Int32.ofNat c) m = q_227_92 m x (Int32.ofNat c) 0 → ∃ y g p, l_108_6 x (Int32.ofNat c) h = some (.inl (y, Int32.ofNat (c + 1), g)) ∧ l_227_9 x (Int32.ofNat c) m = some (.inl (y, Int32.ofNat (c + 1), p)) ∧ CP g p n nw k B ∧ isSt n (ndc g n nw) (twh g n nw 26) (own g n nw) s ∧ RN n nw h m g p ∧ g 3 = h 3 ∧ p 1122 = m 1122 := by
    intro q1 q2
    have gq : ∀ z, z ≠ 46 → z ≠ 47 → z ≠ 64 * c + 52 → ¬ (64 * c + 70 ≤ z ∧ z ≤ 64 * c + 78) → w_up h (64 * c + 52) 16 0 z = h z := fun z _ _ a _ => funext fun o => w_up_q a
    have gb : ∀ o, o ≠ 16 → w_up h (64 * c + 52) 16 0 (64 * c + 52) o = h (64 * c + 52) o := fun o ho => w_up_b ho
    have pq : ∀ q, q ≠ 1106 → w_up m 1106 c 0 q = m q := fun q a => funext fun o => w_up_q a
    obtain ⟨z1, z2, z3⟩ := save_st hs gq gb
    have HC : CP (w_up h (64 * c + 52) 16 0) (w_up m 1106 c 0) n nw k B := save_cp H hc gq gb (fun q a _ => pq q (by omega)) (fun j hj => ⟨w_up_b hj, fun o _ => by rw [pq 1107 (by decide)], by rw [pq 1108 (by decide)], fun o _ => by rw [pq 1109 (by decide)], fun o _ => by rw [pq 1110 (by decide)], fun o _ => by rw [pq 1111 (by decide)]⟩) (by rw [w_up_at, w_up_at]) (Or.inl w_up_at) (fun hh => absurd w_up_at hh)
    refine ⟨x, _, _, ?_, ?_, HC, z1, ⟨fun z hz => gq z (by omega) (by omega) (by omega) (by omega), fun q hq => pq q (by omega), by rw [pq 1076 (by decide)], z2, z3⟩, gq 3 (by omega) (by omega) (by omega) (by omega), pq 1122 (by decide)⟩
    · rw [q1]
      unfold q_108_38
      simp only [w_let]
      rw [show w_bo 0 = true from rfl]
      simp only [w_gd]
      rw [w_up_at, if_pos rfl, u_S]
    · rw [q2]
      unfold q_227_92
      have n52 : j_nar 52 0 = 0 := rfl
      simp (disch := omega) only [u_ix, u_cl, w_gd, w_let, n52, u_S]
      rw [if_pos trivial]
  have cls37 : ∀ q s0, q_108_37 h x (Int32.ofNat c) q s0 = q_108_38 h x (Int32.ofNat c) q 0 s0 := fun _ _ => rfl
  have p59a := s_59 (h := h) (q := 64 * c + 53) (x := 63) C.2.2.1
  have p59b := s_59 (h := h) (q := 64 * c + 53) (x := 64) C.2.2.1
  have l1094 : w_len 1094 = 144 := by decide +kernel
  have mdl0 : l_227_9 x (Int32.ofNat c) m = q_227_31 m x (Int32.ofNat c) (if s c = 0 then (if m 1094 (9 * c) < 0 then 1 else 0 : Int32) else 0 : Int32) := by
    unfold l_227_9
    rw [if_pos lt16, hmn, if_pos lt1, if_pos lt1]
    simp (disch := omega) only [u_ix, u_cl, e22, e9c, ite_self, Bool.and_self, w_gd]
  by_cases h0 : s c = 0
  · obtain ⟨V, hV⟩ := fr_gave2 H hs
    obtain ⟨v1, v2, v3, v4⟩ := hV c hc h0
    have p74 := c_74 (h := h) (q := 64 * c + 59) (V := V c) (fun x hx => v1 x hx)
    have hm94 : (if m 1094 (9 * c) < 0 then 1 else 0 : Int32) = ofB (!isR (V c 26)) := by
      have := mv_neg v3
      cases hq : isR (V c 26) with
      | true => rw [if_neg (fun hh => (this.mp hh) hq)]; rfl
      | false => rw [if_pos (this.mpr (by rw [hq]; decide))]; rfl
    rw [if_pos h0, hm94] at mdl0
    have mdl1 : l_227_9 x (Int32.ofNat c) m = q_227_92 m x (Int32.ofNat c) (ofB ((!isR (V c 26) && nal (V c) 26) && ncq T T.length)) := by
      rw [mdl0]
      unfold q_227_31
      rw [m_227n c16 v2]
      simp only [Option.bind_some]
      unfold q_227_56
      rw [m_227t c16 C.2.2.2.2.1]
      rfl
    have nal27 : nal (V c) 27 = (nal (V c) 26 && !isR (V c 26)) := by
      unfold nal
      simp only [anyb, Bool.not_or]
    have sv : ((!isR (V c 26) && nal (V c) 26) && ncq T T.length) = ((!decide ((63 : Int32) ∈ T) && !decide ((64 : Int32) ∈ T)) && nal (V c) 27) := by
      rw [ncq_mem, nal27]
      cases isR (V c 26) <;> cases nal (V c) 26 <;> cases decide ((63 : Int32) ∈ T) <;> cases decide ((64 : Int32) ∈ T) <;> rfl
    have cls1 : l_108_6 x (Int32.ofNat c) h = q_108_38 h x (Int32.ofNat c) (64 * c + 52) (ofB ((!decide ((63 : Int32) ∈ T) && !decide ((64 : Int32) ∈ T)) && nal (V c) 27)) (64 * c + 52) := by
      unfold l_108_6
      rw [hn, if_pos lt1]
      simp (disch := omega) only [u_ix, u_cl, w_gd]
      rw [e3, if_pos h0, p59a]
      simp only [Option.bind_some]
      cases decide ((63 : Int32) ∈ T) with
      | true => rw [if_neg (by decide)]; rfl
      | false =>
        rw [if_pos (show ofB false = 0 from rfl), p59b]
        simp only [Option.bind_some]
        cases decide ((64 : Int32) ∈ T) with
        | true => rw [if_neg (by decide)]; rfl
        | false =>
          rw [if_pos (show ofB false = 0 from rfl), p74]
          simp only [Option.bind_some]
          cases nal (V c) 27 <;> rfl
    rw [sv] at mdl1
    cases hsv : ((!decide ((63 : Int32) ∈ T) && !decide ((64 : Int32) ∈ T)) && nal (V c) 27) with
    | false =>
      rw [hsv] at cls1 mdl1
      exact none_ cls1 mdl1
    | true =>
      rw [hsv] at cls1 mdl1
      obtain ⟨f1, f2, f3, f4, f5⟩ := fresh_at hs hc h0
      have hus : h (64 * c + 55) 7 = (rdA T (m 1081 c)).2.2.2.2.2.2.2 := C.2.2.2.1.2.2.2.2.2.2
      generalize hus' : (rdA T (m 1081 c)).2.2.2.2.2.2.2 = us at hus
      -- the class
      generalize hg0 : w_up h (64 * c + 52) 16 1 = g0
      have g0q : ∀ z, z ≠ 64 * c + 52 → g0 z = h z := fun z a => by rw [← hg0]; exact funext fun o => w_up_q a
      have g0b : ∀ o, o ≠ 16 → g0 (64 * c + 52) o = h (64 * c + 52) o := fun o ho => by rw [← hg0, w_up_b ho]
      obtain ⟨z1, z2, z3⟩ := save_st (g := g0) hs (fun z _ _ a _ => g0q z a) g0b
      have ec : ∀ j, j < 16 → g0 (64 * j + 55) = h (64 * j + 55) := fun j hj => g0q _ (by omega)
      have J0 : JOK g0 n nw := JOK_fr H.2.1 (by rw [g0q 0 (by omega)]) (by rw [g0q 4 (by omega)]) (g0q 5 (by omega)) (fun z a d => g0q z (by omega)) ec
      have W0 : MW g0 m n nw := MW_eq H.2.2.1 (g0q 5 (by omega)) ec rfl rfl (fun _ _ => rfl)
      have endc : ndc g0 n nw = ndc h n nw := by funext c j; unfold ndc; rw [z2]
      obtain ⟨g1, a1, a2, a3, a4⟩ := gath2 (h := g0) (m := m) (V := V) (us := us) J0 W0 (fun w hw => by rw [g0q 8 (by omega)]; exact H.2.2.2.1.1 w hw) H.2.2.2.2.2.2.2.2.2.2.1 (fun j hj hj0 => ⟨fun x hx => cv_fr ((hV j hj hj0).1 x hx) (g0q _ (by omega)) (g0q _ (by omega)), (hV j hj hj0).2.1⟩) z1 hc (by rw [z3]; exact f5) (fun j hj hd => (f4 j hj (by rw [← endc]; exact hd)).1) (by rw [ec c c16]; exact hus)
      have hsome : ∀ x, x < 26 → bt us x = true → (egt V g0 n nw c us x).isSome = true := by
        intro x hx hu
        have : egt V g0 n nw c us = egt V h n nw c us := by
          have d1 : dfh g0 n nw = dfh h n nw := dfh_eq h16 (g0q 5 (by omega)) ec
          have d2 : chh g0 n = chh h n := chh_eq h16 ec
          unfold egt gvr
          rw [d1, d2, g0q 8 (by omega)]
        rw [this]
        exact fr_some H hs (fun j hj hj0 => (hV j hj hj0).2.2.2) hc h0 hus hx hu
      have he0 : ∀ x, x < 27 → ¬ (x < 26 ∧ bt us x = true) → egt V g0 n nw c us x = none := fun x _ hn => by unfold egt; rw [if_neg hn]
      generalize egt V g0 n nw c us = e at a2 a4 hsome he0
      have g1q : ∀ z, z ≠ 46 → z ≠ 47 → g1 z = g0 z := fun z a d => a3 z (by omega)
      obtain ⟨g2, b1, b2, b3, b4, b5, b6⟩ := c_13 (h := g1) (q := 64 * c + 69) (t := 64 * c + 53) (u := 45) (g := 64 * c + 59) (T := T) (U := e) (G := V c) (tx_fr2 C.2.2.1 (by rw [g1q _ (by omega) (by omega), g0q _ (by omega)]) (by rw [g1q _ (by omega) (by omega), g0q _ (by omega)])) a2 (fun x hx => cv_fr (v1 x hx) (by rw [g1q _ (by omega) (by omega), g0q _ (by omega)]) (by rw [g1q _ (by omega) (by omega), g0q _ (by omega)])) (fun j _ _ => by omega) (fun j _ _ => by omega) (fun j _ _ => by omega) (by omega) (by omega)
      have cls2 : l_108_6 x (Int32.ofNat c) h = some (.inl (x + 1, Int32.ofNat (c + 1), g2)) := by
        rw [cls1]
        unfold q_108_38
        simp only [w_let]
        rw [show ofB true = 1 from rfl, show w_bo 1 = true from rfl]
        simp only [w_gd]
        rw [w_up_at, if_neg no10, hg0, a1]
        simp only [Option.bind_some]
        rw [show 64 * c + 52 + 17 = 64 * c + 69 by omega, show 64 * c + 52 + 1 = 64 * c + 53 by omega, show 64 * c + 52 + 7 = 64 * c + 59 by omega, b1]
        simp only [Option.bind_some]
        rw [u_S]
      -- the model
      have l1107 : w_len 1107 = 640 := by decide +kernel
      have l1109 : w_len 1109 = 3744 := by decide +kernel
      have l1111 : w_len 1111 = 144 := by decide +kernel
      have h40 := C.2.2.2.2.1.1
      obtain ⟨fe, hF, hfe⟩ := a4 m 0 (by decide) rfl rfl rfl rfl rfl rfl rfl (fun _ _ => rfl) H.2.2.2.2.2.2.2.2.2.2.1
      generalize hp1 : w_up m 1106 c 1 = p1
      have p1q : ∀ q, q ≠ 1106 → p1 q = m q := fun q a => by rw [← hp1]; exact funext fun o => w_up_q a
      have MT1 : mt p1 c T := ⟨h40, by rw [p1q 1080 (by decide)]; exact C.2.2.2.2.1.2.1, fun j hj => by rw [p1q 1079 (by decide)]; exact C.2.2.2.2.1.2.2 j hj⟩
      have k1 := s_215 (m := p1) (r := 1107) (o := 40 * c) c16 MT1 (by rw [l1107]; omega) (by rw [l1107]; decide) (by decide) (by decide)
      generalize hp2 : w_fi p1 1107 (40 * c) T.length (fun i => p1 1079 (40 * c + i)) = p2 at k1
      have p2q : ∀ q, q ≠ 1106 → q ≠ 1107 → p2 q = m q := fun q a d => by rw [← p1q q a, ← hp2]; exact funext fun o => w_fi_q d
      generalize hp3 : w_up p2 1108 c (Int32.ofNat T.length) = p3
      have p3q : ∀ q, q ≠ 1106 → q ≠ 1107 → q ≠ 1108 → p3 q = m q := fun q a d e => by rw [← p2q q a d, ← hp3]; exact funext fun o => w_up_q e
      have F3 : FH c 0 fe p3 := FH_mv hF (by rw [p3q 1076 (by decide) (by decide) (by decide)]) (by rw [p3q 1076 (by decide) (by decide) (by decide)]) (p3q _ (by decide) (by decide) (by decide)) (p3q _ (by decide) (by decide) (by decide)) (p3q _ (by decide) (by decide) (by decide)) (p3q _ (by decide) (by decide) (by decide)) (p3q _ (by decide) (by decide) (by decide)) (p3q _ (by decide) (by decide) (by decide)) (p3q _ (by decide) (by decide) (by decide))
      obtain ⟨p4, k2, k3, k4, k5⟩ := m_219 (m := p3) (c := c) (r := 1109) (o := 234 * c) (us := us) (fe := fe) c16 (by rw [p3q 1085 (by decide) (by decide) (by decide), C.2.2.2.2.2.2.1.2.2]; exact hus') F3 (by rw [p3q 1076 (by decide) (by decide) (by decide)]; exact H.2.2.2.2.1.2.2.1) (by rw [l1109]; omega) (by rw [l1109]; decide) (by decide)
      have p4q : ∀ q, q ≠ 1132 → q ≠ 1109 → p4 q = p3 q := fun q a d => k4 q (by omega)
      have k6 : w_lp (fun (s : Int32 × Hp) => l_227_126 (Int32.ofNat c) s.1 s.2) w_N (0, p4) = some (w_fi p4 1110 (234 * c) 234 (fun j => p4 1093 (234 * c + j))) := by
        refine m_cp234 (r1 := 1093) (r2 := 1110) (a := 234 * c) (b := 234 * c) (f := fun j g => l_227_126 (Int32.ofNat c) j g) (by decide) (fun j g hj => ?_) (fun g => ?_)
        · have hlt : Int32.ofNat j < 234 := (u_ltL (n := 234) (by omega) (by decide)).mpr hj
          have ea : (234 : Int32) * Int32.ofNat c + Int32.ofNat j = Int32.ofNat (234 * c + j) := by rw [e234c, u_add]
          simp (disch := omega) only [l_227_126, hlt, if_true, ea, u_ix, u_cl, w_gd, w_let, u_S]
        · have hlt : ¬ Int32.ofNat 234 < 234 := by decide
          simp only [l_227_126, hlt, if_false]
      generalize hp5 : w_fi p4 1110 (234 * c) 234 (fun j => p4 1093 (234 * c + j)) = p5 at k6
      have p5q : ∀ q, q ≠ 1110 → p5 q = p4 q := fun q a => by rw [← hp5]; exact funext fun o => w_fi_q a
      have k7 := m_193 (m := p5) (r := 1094) (r2 := 1111) (o := 9 * c) (o2 := 9 * c) (by rw [l1094]; omega) (by rw [l1111]; omega) (by rw [l1094]; decide) (by rw [l1111]; decide) (Or.inl (by decide))
      generalize hp6 : w_fi p5 1111 (9 * c) 9 (fun j => p5 1094 (9 * c + j)) = p6 at k7
      have p6q : ∀ q, q ≠ 1111 → p6 q = p5 q := fun q a => by rw [← hp6]; exact funext fun o => w_fi_q a
      have all : ∀ q, ¬ (1106 ≤ q ∧ q ≤ 1111) → q ≠ 1132 → p6 q = m q := fun q a d => by rw [p6q q (by omega), p5q q (by omega), p4q q d (by omega), p3q q (by omega) (by omega) (by omega)]
      have mdl2 : l_227_9 x (Int32.ofNat c) m = some (.inl (x + 1, Int32.ofNat (c + 1), p6)) := by
        rw [mdl1]
        unfold q_227_92
        have n52 : j_nar 52 1 = 1 := rfl
        rw [show ofB true = 1 from rfl, n52]
        simp (disch := omega) only [u_ix, u_cl, w_gd, w_let, no10, if_false]
        rw [hp1, e40c, k1]
        simp only [Option.bind_some]
        rw [show p2 1080 c = Int32.ofNat T.length by rw [p2q 1080 (by decide) (by decide)]; exact C.2.2.2.2.1.2.1, hp3, e234c, k2]
        simp only [Option.bind_some]
        rw [k6]
        simp only [Option.bind_some]
        rw [e9c, k7]
        simp only [Option.bind_some]
        rw [u_S]
      have p06 : p6 1106 c = 1 := by rw [p6q 1106 (by decide), p5q 1106 (by decide), p4q 1106 (by decide) (by decide), ← hp3, w_up_q (by decide), ← hp2, w_fi_q (by decide), ← hp1, w_up_at]
      -- both
      have gq : ∀ z, z ≠ 46 → z ≠ 47 → z ≠ 64 * c + 52 → ¬ (64 * c + 70 ≤ z ∧ z ≤ 64 * c + 78) → g2 z = h z := fun z a d e f => by rw [b5 z (by omega), g1q z a d, g0q z e]
      have g52 : g2 (64 * c + 52) = g0 (64 * c + 52) := by rw [b5 _ (by omega), g1q _ (by omega) (by omega)]
      have gb : ∀ o, o ≠ 16 → g2 (64 * c + 52) o = h (64 * c + 52) o := fun o ho => by rw [g52, g0b o ho]
      obtain ⟨w1, w2, w3⟩ := save_st (g := g2) hs gq gb
      have KEn_ : KE g2 p6 (64 * c + 69) 1107 1108 1109 1110 1111 c (m 1081 c) (T, e, V c) := by
        refine ⟨b2, fun j hj => ?_, ?_, b3, fun x hx hu => ⟨?_, ?_⟩, fun x hx hn => he0 x hx (by rw [← hus']; exact hn), b4, fun x hx => ?_, ?_, fun x hx hb => ?_⟩
        · have hj' : j < T.length := hj
          show p6 1107 (40 * c + j) = T.getD j 0
          rw [p6q 1107 (by decide), p5q 1107 (by decide), p4q 1107 (by decide) (by decide), ← hp3, w_up_q (by decide), ← hp2, w_fi_at (by omega) (by omega), Nat.add_sub_cancel_left, p1q 1079 (by decide)]
          exact C.2.2.2.2.1.2.2 j hj'
        · rw [p6q 1108 (by decide), p5q 1108 (by decide), p4q 1108 (by decide) (by decide), ← hp3, w_up_at]
        · have hu' : bt us x = true := by rw [← hus']; exact hu
          have := k3 x hx hu'
          rw [← hfe x hx hu'] at this
          exact mv_fr this (fun _ _ _ => by rw [p6q 1109 (by decide), p5q 1109 (by decide)])
        · exact hsome x hx (by rw [← hus']; exact hu)
        · refine mv_cq (v2 x hx) (fun o ho => ?_)
          rw [p6q 1110 (by decide), ← hp5, w_fi_at (by omega) (by omega), p4q 1093 (by decide) (by decide), p3q 1093 (by decide) (by decide) (by decide)]
          rw [show 234 * c + (234 * c + 9 * x + o - 234 * c) = 234 * c + 9 * x + o by omega]
        · refine mv_cq v3 (fun o ho => ?_)
          rw [← hp6, w_fi_at (by omega) (by omega), Nat.add_sub_cancel_left, p5q 1094 (by decide), p4q 1094 (by decide) (by decide), p3q 1094 (by decide) (by decide) (by decide)]
        · refine v4 x hx ?_
          have e5 : h (64 * c + 55) 5 = (rdA T (m 1081 c)).2.2.2.2.2.1 := C.2.2.2.1.2.2.2.2.1
          have e6 : h (64 * c + 55) 6 = (rdA T (m 1081 c)).2.2.2.2.2.2.1 := C.2.2.2.1.2.2.2.2.2.1
          rw [e5, e6]; exact hb
      have HC : CP g2 p6 n nw k B := by
        refine save_cp H hc gq gb all (fun j hj => ⟨?_, fun o ho => ?_, ?_, fun o ho => ?_, fun o ho => ?_, fun o ho => ?_⟩) (by rw [g52, ← hg0, w_up_at, p06]) (Or.inr p06) (fun _ => ⟨_, KEn_⟩)
        · rw [p6q 1106 (by decide), p5q 1106 (by decide), p4q 1106 (by decide) (by decide), ← hp3, w_up_q (by decide), ← hp2, w_fi_q (by decide), ← hp1, w_up_b hj]
        · rw [p6q 1107 (by decide), p5q 1107 (by decide), p4q 1107 (by decide) (by decide), ← hp3, w_up_q (by decide), ← hp2, w_fi_b (by omega), p1q 1107 (by decide)]
        · rw [p6q 1108 (by decide), p5q 1108 (by decide), p4q 1108 (by decide) (by decide), ← hp3, w_up_b hj, p2q 1108 (by decide) (by decide)]
        · rw [p6q 1109 (by decide), p5q 1109 (by decide), k5 _ (by omega), p3q 1109 (by decide) (by decide) (by decide)]
        · rw [p6q 1110 (by decide), ← hp5, w_fi_b (by omega), p4q 1110 (by decide) (by decide), p3q 1110 (by decide) (by decide) (by decide)]
        · rw [← hp6, w_fi_b (by omega), p5q 1111 (by decide), p4q 1111 (by decide) (by decide), p3q 1111 (by decide) (by decide) (by decide)]
      exact ⟨x + 1, g2, p6, cls2, mdl2, HC, w1, ⟨fun z hz => gq z (by omega) (by omega) (by omega) (by omega), fun q hq => all q (by omega) (by omega), by rw [all 1076 (by omega) (by omega)], w2, w3⟩, gq 3 (by omega) (by omega) (by omega) (by omega), all 1122 (by omega) (by omega)⟩
  · refine none_ ?_ ?_
    · unfold l_108_6
      rw [hn, if_pos lt1]
      simp (disch := omega) only [u_ix, u_cl, w_gd]
      rw [e3, if_neg h0]
      rfl
    · rw [mdl0, if_neg h0]
      unfold q_227_31
      rw [lp_F]
      simp only [Option.bind_some]
      unfold q_227_56
      rw [lp_G]
      rfl
end SC0
