/-! ===== a cell takes a text: all is coupled again ===== -/
section SB5
variable {h h' h1 g m m' m1 p : Hp} {n n' nw k B B' b c : Nat} {T : List Int32} {lang us x y z : Int32} {s : Nat → Int32}
theorem PAST_0 {po : Nat} {F : Nat → KEn} (P : PAST h m c lang 0 po F) : PAST h m c us 0 po F := by
  obtain ⟨a1, a2, a3, a4, a5, a6, a7, a8⟩ := P
  exact ⟨a1, a2, a3, a4, a5, a6, fun i hi => absurd hi (Nat.not_lt_zero _), a8⟩
theorem take_cp (H : CP h m n nw k B) (hB : B + 1 ≤ B' ∧ B' ≤ 1000000) (hc : c < 16) (hn : (c < n ∧ n' = n) ∨ (c = n ∧ n' = n + 1))
    (hla : c < n → lang = m 1081 c) (hl3 : lang = 0 ∨ lang = 1 ∨ lang = 2) (hF : rdF T lang = -1)
    (gJ : JOK g n' nw) (g4 : g 4 = h 4) (gw : ∀ z, 5 ≤ z → z ≤ 10 → g z = h z) (g0 : ∀ o, 11 ≤ o → o ≤ 16 → g 0 o = h 0 o) (g17 : g 0 17 = 0) (g40 : g 40 = h 40)
    (gs : ∀ j, j < 16 → j ≠ c → sch j h g) (gc : ∀ z, 64 * c + 59 ≤ z → z < 64 * c + 116 → g z = h z) (gb : ∀ o, o ≠ 10 → o ≠ 15 → g (64 * c + 52) o = h (64 * c + 52) o) (g15 : g (64 * c + 52) 15 = 0) (gt : tx g (64 * c + 53) T) (gd : cd g (64 * c + 55) (rdA T lang).2 lang)
    (ps : ∀ j, j < 16 → j ≠ c → scm j m p) (pq : ∀ q, 1087 ≤ q → q ≤ 1126 → p q = m q) (pl : p 1081 c = lang) (pt : mt p c T) (pS : sts p c (rdA T lang).2.2.2.2.2.1 (rdA T lang).2.2.2.2.2.2.1 (rdA T lang).2.2.2.2.2.2.2) (po : p 1086 c = ofB (opn T T.length)) (p2 : p 1076 2 = Int32.ofNat n') (p45 : p 1076 45 = 0) (p76 : ∀ b, (19 ≤ b ∧ b ≤ 22) ∨ b = 29 ∨ b = 31 ∨ b = 32 ∨ b = 46 ∨ b = 47 ∨ b = 48 → p 1076 b = m 1076 b)
    (ge : g (64 * c + 52) 10 = p 1082 c) (pe : p 1082 c = (if c < n then m 1082 c + 1 else m 1082 c)) (Y : TY g p) : CP g p n' nw k B' := by
  obtain ⟨⟨b1, b2⟩, J, W, R, S, Q, G, -, P, C, V, V2, U⟩ := H
  have h16 := J.1
  have h4 := J.2.2.2.1
  have hcn' : c < n' := by omega
  obtain ⟨⟨pc, po', F, PP, pp0⟩, ⟨D, L, d1, d2⟩, ⟨x1, e, r, x2, x3, x4, x5, x6⟩, ⟨y1, y2, y3, y4⟩, ⟨st, st1, st2⟩, z0⟩ := P c hc
  have e' : ∃ e', e' ≤ B' ∧ r ≤ e' ∧ p 1082 c = Int32.ofNat e' ∧ (c < n → r ≠ e') := by
    by_cases h1 : c < n
    · rw [if_pos h1, x4, u_S] at pe
      exact ⟨e + 1, by omega, by omega, pe, fun _ => by omega⟩
    · rw [if_neg h1, x4] at pe
      exact ⟨e, by omega, x3, pe, fun hh => absurd hh h1⟩
  obtain ⟨e', v1, v2, v3, v4⟩ := e'
  have p48 : p 1076 48 = m 1076 48 := p76 48 (by omega)
  have cel' : cel g p c T lang := ⟨hl3, hF, gt, gd, pt, pl, pS, po, ge⟩
  refine ⟨⟨by omega, hB.2⟩, gJ, ⟨gJ.1, h4, p2, p48.trans W.2.2.2.1, fun j hj => ?_, fun w hw => ?_, ?_⟩, ⟨fun w hw => ?_, fun j hj => ?_, fun i j hi hj hne => ?_⟩, ?_, ?_, WG_fr G (by rw [g4]) (fun z hz => by
      rcases hz with rfl | rfl | rfl | rfl
      · exact gw 6 (by omega) (by omega)
      · exact gw 7 (by omega) (by omega)
      · exact gw 9 (by omega) (by omega)
      · exact gw 10 (by omega) (by omega)) (fun q hq => pq q (by omega) (by omega)), Y, fun j hj => ?_, fun j hj => ?_, fun j x hj hx => ?_, fun j x hj hx => ?_, fun j hj a1 a2 x hx hux => ?_⟩
  · by_cases ej : j = c
    · subst ej
      obtain ⟨q1, q2, q3⟩ := pS
      obtain ⟨-, -, -, -, q5, q6, q7⟩ := gd
      exact ⟨by rw [q1, q5], by rw [q2, q6], by rw [q3, q7]⟩
    · have e55 : g (64 * j + 55) = h (64 * j + 55) := gs j (by omega) ej _ (by omega) (by omega) (by omega)
      have m1 := (ps j (by omega) ej).1
      rw [m1 1083 (by omega), m1 1084 (by omega), m1 1085 (by omega), e55]
      exact W.2.2.2.2.1 j (by omega)
  · rw [gw 5 (by omega) (by omega), pq 1112 (by omega) (by omega)]; exact W.2.2.2.2.2.1 w hw
  · rw [gw 5 (by omega) (by omega)]; exact W.2.2.2.2.2.2
  · rw [gw 8 (by omega) (by omega), pq 1115 (by omega) (by omega)]; exact R.1 w hw
  · by_cases ej : j = c
    · subst ej
      have n87 : ¬ (¬ p 1087 j ≤ 0 ∧ p 1089 j = p 1082 j) := by
        rintro ⟨q1, q2⟩
        rw [pq 1087 (by omega) (by omega)] at q1
        rw [pq 1089 (by omega) (by omega), x5, v3, u_inj (by omega) (by omega)] at q2
        by_cases hh : j < n
        · exact v4 hh q2
        · rw [(z0 (by omega)).2.2.1] at q1; exact q1 (by decide)
      refine ⟨⟨fun hh => absurd g15 hh, fun hh => absurd hh n87⟩, ?_, ?_, fun hh => absurd g15 hh⟩
      · rw [gb 14 (by decide) (by decide), pq 1088 (by omega) (by omega)]
        by_cases hh : j < n
        · exact (R.2.1 j hh).2.1
        · rw [(z0 (by omega)).2.1, (z0 (by omega)).2.2.2]
      · rw [pq 1088 (by omega) (by omega), st2]
        exact (u_Lle (n := 0) (by omega) (by decide)).mpr (Nat.zero_le _)
    · have e52 : g (64 * j + 52) = h (64 * j + 52) := gs j (by omega) ej _ (by omega) (by omega) (by omega)
      have e79 : g (64 * j + 79) = h (64 * j + 79) := gs j (by omega) ej _ (by omega) (by omega) (by omega)
      obtain ⟨q1, q2, q3, q4⟩ := R.2.1 j (by omega)
      rw [e52, e79, pq 1087 (by omega) (by omega), pq 1089 (by omega) (by omega), (ps j (by omega) ej).1 1082 (by omega), pq 1088 (by omega) (by omega), pq 1090 (by omega) (by omega), pq 1091 (by omega) (by omega)]
      exact ⟨q1, q2, q3, q4⟩
  · rw [pq 1088 (by omega) (by omega)]
    intro hh
    by_cases hi' : i < n
    · by_cases hj' : j < n
      · exact R.2.2 i j hi' hj' hne hh
      · have : j = c := by omega
        subst this
        rw [hh]; exact (z0 (by omega)).2.2.2
    · have : i = c := by omega
      subst this
      exact (z0 (by omega)).2.2.2
  · exact SCL_fr S ⟨by rw [g40], by rw [g40]⟩ (fun o ho => g0 o (by omega) (by omega)) (fun o ho => p76 o (by omega))
  · exact RSB_no Q g17 (g0 15 (by decide) (by decide)) (g0 16 (by decide) (by decide)) p45 (p76 46 (by omega)) (p76 47 (by omega))
  · by_cases ej : j = c
    · subst ej
      refine ⟨?_, ⟨D, L, drc_fr d1 (fun z a b => gc z (by omega) (by omega)), dr1_fr d2 (fun _ _ => by rw [pq 1097 (by omega) (by omega)]) (by rw [pq 1098 (by omega) (by omega)]) (by rw [pq 1096 (by omega) (by omega)]) (fun _ _ => by rw [pq 1095 (by omega) (by omega)])⟩, ⟨ge, e', r, v1, v2, v3, ?_, fun w hw hb => ?_⟩, ⟨?_, ?_, fun hh => absurd hh (by omega), fun hh => ?_⟩, ⟨st, st1, by rw [pq 1088 (by omega) (by omega)]; exact st2⟩, fun hh => absurd hh (by omega)⟩
      · have P1 : PAST g p j (m 1081 j) pc po' F := PAST_mv PP (gb 8 (by decide) (by decide)) (gb 9 (by decide) (by decide)) (fun z a b => gc z (by omega) (by omega)) (by rw [pq 1100 (by omega) (by omega)]) (fun _ _ _ => ⟨fun _ _ => by rw [pq 1101 (by omega) (by omega)], by rw [pq 1102 (by omega) (by omega)], fun _ _ => by rw [pq 1103 (by omega) (by omega)], fun _ _ => by rw [pq 1104 (by omega) (by omega)], fun _ _ => by rw [pq 1105 (by omega) (by omega)]⟩)
        rw [pl]
        by_cases hh : j < n
        · rw [hla hh]; exact ⟨pc, po', F, P1, fun hh2 => absurd hh2 (by omega)⟩
        · have := pp0 (by omega)
          subst this
          exact ⟨0, po', F, PAST_0 P1, fun _ => rfl⟩
      · rw [pq 1089 (by omega) (by omega)]; exact x5
      · rw [pq 1090 (by omega) (by omega)] at hb
        rw [p48]; exact x6 w hw hb
      · rw [gb 16 (by decide) (by decide), pq 1106 (by omega) (by omega)]; exact y1
      · rw [pq 1106 (by omega) (by omega)]; exact y2
      · rw [pq 1106 (by omega) (by omega)] at hh
        by_cases hn2 : j < n
        · obtain ⟨E, K⟩ := y4 hh
          rw [pl, hla hn2]
          exact ⟨E, KE_fr K (fun z a b => gc z (by omega) (by omega)) (fun _ _ => by rw [pq 1107 (by omega) (by omega)]) (by rw [pq 1108 (by omega) (by omega)]) (fun _ _ => by rw [pq 1109 (by omega) (by omega)]) (fun _ _ => by rw [pq 1110 (by omega) (by omega)]) (fun _ _ => by rw [pq 1111 (by omega) (by omega)])⟩
        · exact absurd (y3 (by omega)) hh
    · have X := PL_fr (P j hj) (Nat.le_refl _) (show B ≤ B' by omega) (gs j hj ej) (ps j hj ej) p48
      obtain ⟨⟨a1, a2, a3, a4, a5⟩, a6, a7, ⟨a8, a9, a10, a11⟩, a12, a13⟩ := X
      exact ⟨⟨a1, a2, a3, a4, fun hh => a5 (by omega)⟩, a6, a7, ⟨a8, a9, fun hh => a10 (by omega), a11⟩, a12, fun hh => a13 (by omega)⟩
  · by_cases ej : j = c
    · subst ej
      unfold CT
      rw [pl]
      exact ⟨T, cel', fun hh => absurd g15 hh⟩
    · exact CT_fr (C j (by omega)) (gs j (by omega) ej) (ps j (by omega) ej)
  · obtain ⟨v, hv⟩ := V j x hj hx
    exact ⟨v, mv_fr hv (fun _ _ _ => by rw [pq 1093 (by omega) (by omega)])⟩
  · obtain ⟨v, hv⟩ := V2 j x hj hx
    exact ⟨v, mv_fr hv (fun _ _ _ => by rw [pq 1123 (by omega) (by omega)])⟩
  · by_cases ej : j = c
    · subst ej; exact absurd g15 a1
    · have e52 : g (64 * j + 52) = h (64 * j + 52) := gs j (by omega) ej _ (by omega) (by omega) (by omega)
      have e55 : g (64 * j + 55) = h (64 * j + 55) := gs j (by omega) ej _ (by omega) (by omega) (by omega)
      rw [e52] at a1 a2
      rw [e55] at hux
      rcases U j (by omega) a1 a2 x hx hux with ⟨w, w1, w2⟩ | ⟨i, i1, i2, i3, i4⟩
      · exact Or.inl ⟨w, w1, by rw [gw 5 (by omega) (by omega)]; exact w2⟩
      · refine Or.inr ⟨i, by omega, i2, by rw [e52]; exact i3, ?_⟩
        by_cases ei : i = c
        · subst ei; exact Or.inl g15
        · have e52i : g (64 * i + 52) = h (64 * i + 52) := gs i (by omega) ei _ (by omega) (by omega) (by omega)
          have e55i : g (64 * i + 55) = h (64 * i + 55) := gs i (by omega) ei _ (by omega) (by omega) (by omega)
          rw [e52i, e52, e55i, e55]; exact i4
end SB5
