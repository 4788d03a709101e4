/-! ===== a cell is restored, by both ===== -/
section SA5
variable {h h' h1 m m' m1 : Hp} {n nw k B c : Nat} {T : List Int32} {lang us : Int32} {s : Nat → Int32}
theorem does1 (H : CP h m n nw k B) (L : LK h m n nw) (hs : isSt n (ndc h n nw) (twh h n nw 26) (own h n nw) s) (hc : c < n) (h5 : ¬ twh h n nw 26 c = true) (hrd : ∀ j, j < n → ndc h n nw c j = true → s j = 0) (hB : k + 1 ≤ B) (hpc : m 1100 c = 0) : ∃ rc r h' m', p_139 h (Int32.ofNat c) 1 = some (rc, h') ∧ p_230 m (Int32.ofNat c) = some (r, m') ∧ m' 1076 20 = m 1076 20 + r ∧ CP h' m' n nw (k + 1) B ∧ ∃ T lang, ran h m h' m' c k nw T lang := by
  have H' := H
  obtain ⟨⟨b1, b2⟩, J, W, RR, S, Q, G, Y, P, CC, V1, V2⟩ := H'
  have h16 := J.1
  have c16 : c < 16 := by omega
  obtain ⟨T, C, O⟩ := CC c hc
  obtain ⟨⟨pc, po, F, PP, -⟩, ⟨D, LL, d1, d2⟩, -, ⟨y1, y2, y3, y4⟩, -⟩ := P c c16
  have pc0 : pc = 0 := by
    have := PP.2.2.2.2.2.1
    rw [hpc] at this
    have h4 := PP.1
    exact ((u_inj (by decide) (by omega)).mp this).symm
  have hus : h (64 * c + 55) 7 = (rdA T (m 1081 c)).2.2.2.2.2.2.2 := C.2.2.2.1.2.2.2.2.2.2
  obtain ⟨e, h1, p1, v1, f1, hX, he0, hgv⟩ := gath H hs hc h5 hrd hus
  have f1' : ∀ z, z ≠ 46 → z ≠ 47 → h1 z = h z := fun z a b => f1 z (by omega)
  have C1 : cel h1 m c T (m 1081 c) := cel_rd C (fun z a b => f1' z (by omega) (by omega)) (by rw [f1' _ (by omega) (by omega)]) (fun _ _ => rfl)
  have P1 : PAST h1 m c (m 1081 c) pc po F := PAST_mv PP (by rw [f1' _ (by omega) (by omega)]) (by rw [f1' _ (by omega) (by omega)]) (fun z a b => f1' z (by omega) (by omega)) rfl (fun _ _ _ => ⟨fun _ _ => rfl, rfl, fun _ _ => rfl, fun _ _ => rfl, fun _ _ => rfl⟩)
  have D1 : drc h1 (64 * c + 65) D LL := drc_fr d1 (fun z a b => f1' z (by omega) (by omega))
  have w1 : h1 4 7 = Int32.ofNat nw := by rw [f1' 4 (by decide) (by decide)]; exact J.2.2.1
  have k1 : h1 0 14 = Int32.ofNat k := by rw [f1' 0 (by decide) (by decide)]; exact S.2.2.2.2.2.1
  have ch1 : h1 40 0 = m 1076 31 := by rw [f1' 40 (by decide) (by decide)]; exact S.1
  have tm1 : h1 40 1 = m 1076 32 := by rw [f1' 40 (by decide) (by decide)]; exact S.2.1
  have e139 : ∀ v, p_140 h1 (Int32.ofNat c) = some v → p_139 h (Int32.ofNat c) 1 = q_139_19 h1 (Int32.ofNat c) 1 (64 * c + 52) v := by
    intro v hv
    unfold p_139
    rw [u_ix c16 (by decide), u_cl (by omega), p1]
    simp only [w_gd, Option.bind_some]
    rw [if_neg (by decide), hv]
    rfl
  have fin : ∀ h' m', (h' (64 * c + 52) 11 = 0 → ∀ x, x < 26 → bt (rdA T (m 1081 c)).2.2.2.2.2.2.2 x = true → (e x).isSome = true) → ran h m h' m' c k nw T (m 1081 c) → CP h' m' n nw (k + 1) B ∧ ∃ T lang, ran h m h' m' c k nw T lang := fun h' m' hs R => ⟨CP_ran H L hc rfl C hB (fun h0 x hx hu => hgv x (hs h0 x hx (by rw [← hus]; exact hu))) R, _, _, R⟩
  -- it is run anew, where m1 is the model then
  have anew : ∀ m1, w_fr (fun q => q = 1132) m m1 → p_140 h1 (Int32.ofNat c) = some 0 → p_230 m (Int32.ofNat c) = q_230_11 m1 (Int32.ofNat c) → ∃ rc r h' m', p_139 h (Int32.ofNat c) 1 = some (rc, h') ∧ p_230 m (Int32.ofNat c) = some (r, m') ∧ m' 1076 20 = m 1076 20 + r ∧ CP h' m' n nw (k + 1) B ∧ ∃ T lang, ran h m h' m' c k nw T lang := by
    intro m1 fm q1 q2
    have fmq : ∀ q, q ≠ 1132 → m1 q = m q := fun q hq => fm q hq
    have C11 : cel h1 m1 c T (m 1081 c) := cel_rd C1 (fun _ _ _ => rfl) rfl (fun q hq => fmq q (by omega))
    have P11 : PAST h1 m1 c (m 1081 c) pc po F := PAST_mv P1 rfl rfl (fun _ _ _ => rfl) (by rw [fmq 1100 (by decide)]) (fun _ _ _ => ⟨fun _ _ => by rw [fmq 1101 (by decide)], by rw [fmq 1102 (by decide)], fun _ _ => by rw [fmq 1103 (by decide)], fun _ _ => by rw [fmq 1104 (by decide)], fun _ _ => by rw [fmq 1105 (by decide)]⟩)
    obtain ⟨h', m', x1, x2, x3, x4, x5⟩ := run_a (h := h1) (m := m1) (T := T) (D := D) (L := LL) (c := c) (k := k) (nw := nw) (lang := m 1081 c) (e := e) (F := F) (how := 1) (Or.inr rfl) c16 J.2.2.2.1 w1 (by rw [fmq 1076 (by decide)]; exact W.2.2.2.1) C11 v1 (FHx_132 hX fm) he0 P11 (fun _ st hst => absurd hst (by omega)) D1 (dr1_fr d2 (fun _ _ => by rw [fmq 1097 (by decide)]) (by rw [fmq 1098 (by decide)]) (by rw [fmq 1096 (by decide)]) (fun _ _ => by rw [fmq 1095 (by decide)])) (fun j x hj hx => by
      obtain ⟨v, hv⟩ := V1 j x hj hx
      exact ⟨v, mv_fr hv (fun _ _ _ => by rw [fmq 1093 (by decide)])⟩) (by rw [fmq 1076 (by decide)]; exact ch1) (by rw [fmq 1076 (by decide)]; exact tm1) k1 (by rw [fmq 1076 (by decide)]; exact S.2.2.2.2.2.2.1)
    have R := ran_pre x3 f1 fm
    refine ⟨0, 1, h', m', (e139 0 q1).trans x1, ?_, ?_, fin h' m' x5 R⟩
    · rw [q2]
      unfold q_230_11
      rw [x2]; rfl
    · rw [x4, fmq 1076 (by decide)]
  have bitm : ((m 1076 46 >>> (Int32.ofNat c &&& 31)) &&& 1) = if bt (h 0 15) c = true then 1 else 0 := by
    rw [← Q.2.2.1]; exact bt_shr (by omega)
  have bitc : v_126 (h1 0 15) (Int32.ofNat c) = if bt (h 0 15) c = true then 1 else 0 := by
    rw [f1' 0 (by decide) (by decide)]; exact u_has (by omega)
  have e16 : h1 (64 * c + 52) 16 = m 1106 c := by rw [f1' _ (by omega) (by omega)]; exact y1
  cases hb : bt (h 0 15) c with
  | false =>
    rw [hb, if_neg (by decide)] at bitm bitc
    refine anew m (w_fr_refl _ _) ?_ ?_
    · unfold p_140
      rw [u_ix c16 (by decide), u_cl (by omega), bitc]
      rfl
    · unfold p_230
      rw [bitm, if_pos rfl]
  | true =>
    rw [hb, if_pos rfl] at bitm bitc
    have e140 : p_140 h1 (Int32.ofNat c) = if m 1106 c = 0 then some 0 else (p_14 h1 (64 * c + 69) (64 * c + 53) 45).bind fun vz6 => q_140_24 h1 (64 * c + 52) (if vz6 = 0 then 0 else 1 : Int32) := by
      unfold p_140
      rw [u_ix c16 (by decide), u_cl (by omega), bitc, e16]
      simp only [w_gd]
      rw [if_neg (by decide)]
      rfl
    have e230 : ∀ g r, p_229 m (Int32.ofNat c) = some (r, g) → p_230 m (Int32.ofNat c) = if r = 0 then q_230_11 g (Int32.ofNat c) else (recT c 1111 (9 * c) false (w_fi g 1093 (234 * c) 234 (fun j => g 1110 (234 * c + j)))).bind (fun v => some ((0 : Int32), v)) := by
      intro g r hr
      unfold p_230
      rw [bitm, if_neg (by decide), hr]
      simp only [Option.bind_some]
      rw [m_rec1 c16]
    by_cases e0 : m 1106 c = 0
    · refine anew m (w_fr_refl _ _) (by rw [e140, if_pos e0]) ?_
      have := e230 m 0 (by
        unfold p_229
        rw [u_ix c16 (by decide), u_cl (by omega), e0]
        rfl)
      rw [this, if_pos rfl]
    · obtain ⟨E, K⟩ := y4 e0
      obtain ⟨K1, K2, K3, K4, K5, K6, K7, K8, K9, K10⟩ := K
      rw [if_neg e0] at e140
      have q14 := c_14 (h := h1) (q0 := 64 * c + 69) (q1 := 64 * c + 53) (q2 := 45) (D := E.1) (T := T) (U := E.2.1) (W := e) (tx_fr2 K1 (f1' _ (by omega) (by omega)) (f1' _ (by omega) (by omega))) C1.2.2.1 (fun i hi => cv_fr (K4 i hi) (f1' _ (by omega) (by omega)) (f1' _ (by omega) (by omega))) v1
      rw [q14] at e140
      simp only [Option.bind_some] at e140
      have l1107 : w_len 1107 = 640 := by decide +kernel
      have l1109 : w_len 1109 = 3744 := by decide +kernel
      have q214 := s_214 (m := m) (c := c) (r := 1107) (o := 40 * c) (S := E.1) c16 C.2.2.2.2.1 K1.1 K2 (by rw [l1107]; omega) (by rw [l1107]; decide)
      have e229 : p_229 m (Int32.ofNat c) = if decide (E.1 = T) = true then (p_218 m (Int32.ofNat c) 1109 (Int32.ofNat (234 * c))).bind fun vz6 => some ((if vz6.1 = 0 then 0 else 1 : Int32), vz6.2) else some (0, m) := by
        unfold p_229
        rw [u_ix c16 (by decide), u_cl (by omega)]
        simp only [w_gd]
        rw [if_neg e0, K3, show (40 : Int32) * Int32.ofNat c = Int32.ofNat (40 * c) from u_Lmul c 40, q214]
        simp only [Option.bind_some]
        rw [show (234 : Int32) * Int32.ofNat c = Int32.ofNat (234 * c) from u_Lmul c 234]
        by_cases he : E.1 = T
        · rw [if_neg (by rw [decide_eq_true he]; decide), if_pos (decide_eq_true he)]
        · rw [if_pos (by rw [decide_eq_false he]; rfl), if_neg (by rw [decide_eq_false he]; decide)]
      by_cases he : E.1 = T
      · rw [if_pos (decide_eq_true he)] at e229
        obtain ⟨fe, hF, hfe⟩ := hX m 0 (by decide) rfl rfl rfl rfl rfl rfl rfl (fun _ _ => rfl) V1
        obtain ⟨m1, q218, fm⟩ := m_218 (m := m) (c := c) (r := 1109) (o := 234 * c) (us := (rdA T (m 1081 c)).2.2.2.2.2.2.2) (fe := fe) (U := E.2.1) c16 C.2.2.2.2.2.2.1.2.2 hF S.2.2.1 (by rw [l1109]; omega) (by rw [l1109]; decide) (by decide) (fun x hx hu => K5 x hx (by rw [he]; exact hu))
        have fmq : ∀ q, q ≠ 1132 → m1 q = m q := fun q hq => fm q hq
        rw [q218] at e229
        simp only [Option.bind_some] at e229
        have same : smv E.2.1 e 27 = !anyb (fun x => bt (rdA T (m 1081 c)).2.2.2.2.2.2.2 x && !decide (fe x = E.2.1 x)) 26 := by
          rw [Bool.eq_iff_iff, smv_iff]
          constructor
          · intro hh
            rw [Bool.not_eq_true']
            cases ha : anyb (fun x => bt (rdA T (m 1081 c)).2.2.2.2.2.2.2 x && !decide (fe x = E.2.1 x)) 26 with
            | false => rfl
            | true =>
              obtain ⟨x, hx, hx2⟩ := (anyb_iff 26).mp ha
              rw [Bool.and_eq_true] at hx2
              have : fe x = E.2.1 x := by rw [← hfe x hx hx2.1]; exact (hh x (by omega)).symm
              rw [decide_eq_true this] at hx2
              exact absurd hx2.2 (by decide)
          · intro ha x hx
            rw [Bool.not_eq_true'] at ha
            by_cases hu : x < 26 ∧ bt (rdA T (m 1081 c)).2.2.2.2.2.2.2 x = true
            · have hn : ¬ anyb (fun x => bt (rdA T (m 1081 c)).2.2.2.2.2.2.2 x && !decide (fe x = E.2.1 x)) 26 = true := by rw [ha]; decide
              rw [anyb_iff 26] at hn
              have : fe x = E.2.1 x := by
                by_cases hq : fe x = E.2.1 x
                · exact hq
                · exact absurd ⟨x, hu.1, by rw [hu.2, decide_eq_false hq]; rfl⟩ hn
              rw [← this]; exact (hfe x hu.1 hu.2).symm
            · rw [he0 x hx hu]
              exact K6 x hx (by rw [he]; exact hu)
        cases hsm : smv E.2.1 e 27 with
        | false =>
          rw [← same, hsm] at e229
          rw [hsm, Bool.and_false] at e140
          refine anew m1 fm (by rw [e140]; rfl) ?_
          rw [e230 m1 _ e229]
          exact if_pos rfl
        | true =>
          rw [← same, hsm] at e229
          rw [hsm, decide_eq_true he] at e140
          have e140' : p_140 h1 (Int32.ofNat c) = some (64 * c + 69 + 1) := by rw [e140]; rfl
          have e230' := e230 m1 _ e229
          rw [if_neg (show ¬ (if ofB true = 0 then (0 : Int32) else 1) = 0 by decide)] at e230'
          have ht : w_tag (64 * c + 69) = 3 := by
            have := tag3 c c16 4 (by omega)
            rw [if_neg (by omega)] at this; exact this
          have l1111 : w_len 1111 = 144 := by decide +kernel
          have C11 : cel h1 m1 c T (m 1081 c) := cel_rd C1 (fun _ _ _ => rfl) rfl (fun q hq => fmq q (by omega))
          have P11 : PAST h1 m1 c (m 1081 c) pc po F := PAST_mv P1 rfl rfl (fun _ _ _ => rfl) (by rw [fmq 1100 (by decide)]) (fun _ _ _ => ⟨fun _ _ => by rw [fmq 1101 (by decide)], by rw [fmq 1102 (by decide)], fun _ _ => by rw [fmq 1103 (by decide)], fun _ _ => by rw [fmq 1104 (by decide)], fun _ _ => by rw [fmq 1105 (by decide)]⟩)
          obtain ⟨h', m', x1, x2, x3, x4⟩ := run_rec (h := h1) (m := m1) (T := T) (D := D) (L := LL) (c := c) (k := k) (nw := nw) (lang := m 1081 c) (W := E.2.2) (F := F) (x2 := 1) (inc := false) (q := 64 * c + 69) (r4 := 1110) (r5 := 1111) (o := c) (Or.inr ⟨rfl, rfl⟩) c16 J.2.2.2.1 w1 (by rw [fmq 1076 (by decide)]; exact W.2.2.2.1) C11 (by omega) ht (fun x hx => cv_fr (K7 x hx) (f1' _ (by omega) (by omega)) (f1' _ (by omega) (by omega))) (Or.inr rfl) (Or.inr rfl) (by rw [l1111]; omega) (fun x hx => mv_fr (K8 x hx) (fun _ _ _ => by rw [fmq 1110 (by decide)])) (mv_fr K9 (fun _ _ _ => by rw [fmq 1111 (by decide)])) (fun x hx hb => K10 x hx (by rw [he]; exact hb)) P11 D1 (dr1_fr d2 (fun _ _ => by rw [fmq 1097 (by decide)]) (by rw [fmq 1098 (by decide)]) (by rw [fmq 1096 (by decide)]) (fun _ _ => by rw [fmq 1095 (by decide)])) (fun j x hj hx => by
            obtain ⟨v, hv⟩ := V1 j x hj hx
            exact ⟨v, mv_fr hv (fun _ _ _ => by rw [fmq 1093 (by decide)])⟩) (by rw [fmq 1076 (by decide)]; exact ch1) (by rw [fmq 1076 (by decide)]; exact S.2.2.1) k1 (by rw [fmq 1076 (by decide)]; exact S.2.2.2.2.2.2.1)
          have R := ran_pre x3 f1 fm
          refine ⟨1, 0, h', m', (e139 _ e140').trans x1, ?_, ?_, fin h' m' (fun _ x hx hu => by rw [← smv_iff.mp hsm x (by omega)]; exact (K5 x hx (by rw [he]; exact hu)).2) R⟩
          · rw [e230', x2]; rfl
          · rw [x4, fmq 1076 (by decide)]; exact (Int32.add_zero _).symm
      · rw [if_neg (by rw [decide_eq_false he]; decide)] at e229
        rw [decide_eq_false he, Bool.false_and] at e140
        refine anew m (w_fr_refl _ _) (by rw [e140]; rfl) ?_
        rw [e230 m 0 e229, if_pos rfl]
end SA5
