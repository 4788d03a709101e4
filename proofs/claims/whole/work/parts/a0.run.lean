/-! ===== a cell is run, by both ===== -/
section SA0
variable {h h' m m' g : Hp} {T D L : List Int32} {c k n nw pc po : Nat} {lang us : Int32} {e : Nat → Option VL} {F : Nat → KEn} {V : Nat → Nat → Option VL}
theorem cel_rd (C : cel h m c T lang) (hh : ∀ z, 64 * c + 53 ≤ z → z ≤ 64 * c + 58 → h' z = h z) (h10 : h' (64 * c + 52) 10 = h (64 * c + 52) 10) (hm : ∀ q, 1079 ≤ q ∧ q ≤ 1086 → m' q = m q) : cel h' m' c T lang := by
  obtain ⟨c1, c2, c3, c4, c5, c6, c7, c8, c9⟩ := C
  refine ⟨c1, c2, tx_fr2 c3 (hh _ (by omega) (by omega)) (hh _ (by omega) (by omega)), cd_fr c4 (hh _ (by omega) (by omega)) (hh _ (by omega) (by omega)) (hh _ (by omega) (by omega)) (hh _ (by omega) (by omega)), ⟨c5.1, by rw [hm 1080 (by omega)]; exact c5.2.1, fun j hj => by rw [hm 1079 (by omega)]; exact c5.2.2 j hj⟩, by rw [hm 1081 (by omega)]; exact c6, ⟨by rw [hm 1083 (by omega)]; exact c7.1, by rw [hm 1084 (by omega)]; exact c7.2.1, by rw [hm 1085 (by omega)]; exact c7.2.2⟩, by rw [hm 1086 (by omega)]; exact c8, by rw [h10, hm 1082 (by omega)]; exact c9⟩
theorem pfr_trans (a : pfr c m m') (b : pfr c m' g) : pfr c m g :=
  ⟨fun x hx => (b.1 x hx).trans (a.1 x hx), fun kk hk => by
    obtain ⟨a1, a2, a3, a4, a5⟩ := a.2 kk hk
    obtain ⟨b1, b2, b3, b4, b5⟩ := b.2 kk hk
    exact ⟨fun x hx => (b1 x hx).trans (a1 x hx), b2.trans a2, fun x hx => (b3 x hx).trans (a3 x hx), fun x hx => (b4 x hx).trans (a4 x hx), fun x hx => (b5 x hx).trans (a5 x hx)⟩⟩
theorem run_a {how : Int32} (hhow : how = 0 ∨ how = 1) (hc : c < 16) (h4 : nw ≤ 4) (hw : h 4 7 = Int32.ofNat nw) (h48 : m 1076 48 = Int32.ofNat nw) (C : cel h m c T lang) (hW : ∀ i, i < 27 → cv h 45 i (e i)) (hX : FHx m c (rdA T lang).2.2.2.2.2.2.2 e) (he0 : ∀ x, x < 27 → ¬ (x < 26 ∧ bt (rdA T lang).2.2.2.2.2.2.2 x = true) → e x = none) (P : PAST h m c lang pc po F) (hno : opn T T.length = false → ∀ s, s < pc → ¬ mat T e (F s)) (hD : drc h (64 * c + 65) D L) (hM : dr1 m c D L) (hv : vld m 1093) (hch : h 40 0 = m 1076 31) (htm : h 40 1 = m 1076 32) (hk : h 0 14 = Int32.ofNat k) (hk' : m 1076 19 = Int32.ofNat k) : ∃ h' m', q_139_19 h (Int32.ofNat c) how (64 * c + 52) 0 = some (0, h') ∧ p_223 m (Int32.ofNat c) how = some m' ∧ ran h m h' m' c k nw T lang ∧ m' 1076 20 = m 1076 20 + 1 ∧ (h' (64 * c + 52) 11 = 0 → ∀ x, x < 26 → bt (rdA T lang).2.2.2.2.2.2.2 x = true → (e x).isSome = true) := by
  obtain ⟨r, hr, m2, p2, fm, ho, b76, z29, z31, z20, z19, z45, z88, z89, z90, z91, z87, z92, hv2, hgv, hrs, hd1⟩ := m_223a hhow hc h4 h48 C hX (he0 26 (by decide) (fun hh => absurd hh.1 (by decide))) hM hv hk'
  have hr' : evl T lang (false, tld how D T L, h 40 1) e (0, h 40 0, []) = some r := by rw [hch, htm]; exact hr
  obtain ⟨h1, q1, v1, d1, r0, r1, r11, r12, n12, n0, ncc, fh⟩ := c_runA (how := how) hc C hW hD hr'
  -- what the class does up to here
  have beg : q_139_19 h (Int32.ofNat c) how (64 * c + 52) 0 = (if (h1 (64 * c + 52) 11) = 0 then
      ((p_3 h1 (64 * c + 52) 45).bind fun vz14 =>
      q_139_86 vz14 (Int32.ofNat c) (64 * c + 52) 0)
    else
      (q_139_86 h1 (Int32.ofNat c) (64 * c + 52) 0)) := by
    unfold q_139_19
    rw [if_pos rfl]
    cases a1 : p_53 h (64 * c + 52 + 13) (64 * c + 52 + 1) how 1 with
    | none => rw [a1] at q1; cases q1
    | some y1 =>
      rw [a1] at q1
      simp only [Option.bind_some] at q1 ⊢
      cases a2 : p_16 y1 (64 * c + 52 + 3) 45 with
      | none => rw [a2] at q1; cases q1
      | some y2 =>
        rw [a2] at q1
        simp only [Option.bind_some, w_let] at q1 ⊢
        rw [q1]
        rfl
  have xPn : ∀ z, 40 < z → ¬ xP z := fun z hz hx => by unfold xP at hx; omega
  have xPs : ∀ z, z < 28 → ¬ xP z := fun z hz hx => by unfold xP at hx; omega
  have fz : ∀ z, 40 < z → z ≠ 64 * c + 52 → z ≠ 64 * c + 60 → z ≠ 64 * c + 61 → z ≠ 64 * c + 65 → z ≠ 64 * c + 66 → z ≠ 64 * c + 67 → z ≠ 64 * c + 68 → h1 z = h z := fun z n0 n1 n2 n3 n4 n5 n6 n7 => fh z (fun hh => by rcases hh with hh | hh | hh; omega; exact xPn z n0 hh; omega)
  have f4 : h1 4 = h 4 := fh 4 (fun hh => by rcases hh with hh | hh | hh; omega; exact xPs 4 (by decide) hh; omega)
  have f8 : h1 8 = h 8 := fh 8 (fun hh => by rcases hh with hh | hh | hh; omega; exact xPs 8 (by decide) hh; omega)
  have f14 : h1 14 = h 14 := fh 14 (fun hh => by rcases hh with hh | hh | hh; omega; exact xPs 14 (by decide) hh; omega)
  have fhr : ∀ z, ¬ hrP c z → h1 z = h z := fun z hz => fh z (fun hh => hz (by
    unfold hrP
    rcases hh with hh | hh | hh
    · exact Or.inl hh
    · exact Or.inr (Or.inl hh)
    · right; right; omega))
  have mq : ∀ q, ¬ mrP q ∨ (1100 ≤ q ∧ q ≤ 1105) → m2 q = m q := fun q hq => fm q (fun hh => by rcases hq with h | h; exact h hh.1; exact hh.2 h)
  have C2 : cel h1 m2 c T lang := cel_rd C (fun z a b => fz z (by omega) (by omega) (by omega) (by omega) (by omega) (by omega) (by omega) (by omega)) (ncc 10 (by decide) (by decide)) (fun q hq => mq q (Or.inl (by unfold mrP evgP evfP; omega)))
  have P2 : PAST h1 m2 c lang pc po F := PAST_mv P (ncc 8 (by decide) (by decide)) (ncc 9 (by decide) (by decide)) (fun z a b => fz z (by omega) (by omega) (by omega) (by omega) (by omega) (by omega) (by omega) (by omega)) (congrFun (mq 1100 (Or.inr (by decide))) c) (fun kk _ _ => ⟨fun b _ => congrFun (mq 1101 (Or.inr (by decide))) _, congrFun (mq 1102 (Or.inr (by decide))) _, fun b _ => congrFun (mq 1103 (Or.inr (by decide))) _, fun b _ => congrFun (mq 1104 (Or.inr (by decide))) _, fun b _ => congrFun (mq 1105 (Or.inr (by decide))) _⟩)
  -- from what is remembered to the end
  have fin : ∀ (h2 m3 : Hp), w_fr (fun z => z = 64 * c + 52 ∨ (64 * c + 80 < z ∧ z < 64 * c + 116)) h1 h2 → (∀ b, b ≠ 8 → b ≠ 9 → h2 (64 * c + 52) b = h1 (64 * c + 52) b) → w_fr (fun q => q = 1132 ∨ (1100 ≤ q ∧ q ≤ 1105)) m2 m3 → pfr c m2 m3 → (∃ pc po F, PAST h2 m3 c lang pc po F) → ((r.1 = 0 → p_222 m2 (Int32.ofNat c) = some m3) ∧ (¬ r.1 = 0 → m3 = m2)) → ∃ h', q_139_86 h2 (Int32.ofNat c) (64 * c + 52) 0 = some (0, h') ∧ ran h m h' m3 c k nw T lang ∧ h' (64 * c + 52) 11 = r.1 := by
    intro h2 m3 e1 e2 e3 e4 ⟨pc', po', F', P3⟩ e6
    have e1' : ∀ z, z ≠ 64 * c + 52 → ¬ (64 * c + 80 < z ∧ z < 64 * c + 116) → h2 z = h1 z := fun z n1 n2 => e1 z (by rintro (h | h); exact n1 h; exact n2 h)
    have e3' : ∀ q, q ≠ 1132 → ¬ (1100 ≤ q ∧ q ≤ 1105) → m3 q = m2 q := fun q n1 n2 => e3 q (by rintro (h | h); exact n1 h; exact n2 h)
    obtain ⟨h3, s1, s2, s3, s4, s5, s6, s7, s8, s9, s10⟩ := c_86 (h := h2) (n4 := 0) (nw := nw) hc (by rw [e1' 4 (by omega) (by omega), f4]; exact hw) h4
    have h214 : h2 0 14 + 1 = Int32.ofNat (k + 1) := by rw [e1' 0 (by omega) (by omega), n0 14 (by decide), hk, u_S]
    have s10' : ∀ z, z ≠ 0 → z ≠ 64 * c + 52 → z ≠ 64 * c + 79 → h3 z = h2 z := fun z n1 n2 n3 => s10 z (by omega)
    have c11 : h3 (64 * c + 52) 11 = r.1 := by rw [s8 11 (by omega), e2 11 (by decide) (by decide), r11]
    have c12 : h3 (64 * c + 52) 12 = r.2.1 := by rw [s8 12 (by omega), e2 12 (by decide) (by decide), r12]
    have z3b : m3 1076 = m2 1076 := e3' _ (by decide) (by decide)
    refine ⟨h3, s1, ⟨⟨fun z hz => ?_, fun q hq => ?_, ⟨fun q b hq hb => ?_, fun b hb => ?_, fun b hb => ?_, fun b hb => ?_, fun q b hq hb => ?_, pfr_trans ho.2.2.2.2.2 e4⟩, fun b x1 x2 x3 x4 => ?_, fun b hb => ?_, ?_, fun b y1 y2 y3 y4 y5 y6 y7 y8 y9 y10 y11 y12 y13 y14 y15 y16 y17 => ?_⟩, ⟨?_, ?_, fun hh => ?_, fun hh => ?_, ?_, ?_, s3, ?_⟩, ⟨s5, ?_, ?_, ?_, ?_, ?_, fun w hw => ⟨?_, ?_⟩, ?_⟩, ⟨fun hh => ⟨?_, gvs (rdA T lang).2.2.2.2.2.1 (rdA T lang).2.2.2.2.2.2.1 r.2.2.1, fun x hx => ?_, fun x hx => ?_, ?_, fun x hx hb => ?_⟩, fun hh => ?_⟩, fun j x hj hx => ?_, ⟨pc', po', F', ?_⟩, ⟨T, r.2.2.2.2.2.2, ?_, ?_⟩⟩, c11⟩
    · rw [s10' z (fun h => hz (by unfold hrP; omega)) (fun h => hz (by unfold hrP; omega)) (fun h => hz (by unfold hrP; omega)), e1' z (fun h => hz (by unfold hrP; omega)) (fun h => hz (by unfold hrP; omega)), fhr z hz]
    · rw [e3' q (fun h => hq (by unfold mrP evgP evfP; omega)) (fun h => hq (by unfold mrP; omega)), mq q (Or.inl hq)]
    · rw [e3' q (by omega) (by omega)]; exact ho.1 q b hq hb
    · rw [e3' _ (by decide) (by decide)]; exact ho.2.1 b hb
    · rw [e3' _ (by decide) (by decide)]; exact ho.2.2.1 b hb
    · rw [e3' _ (by decide) (by decide)]; exact ho.2.2.2.1 b hb
    · rw [e3' q (by omega) (by omega)]; exact ho.2.2.2.2.1 q b hq hb
    · rw [s4 b x3 x4, e1' 0 (by omega) (by omega)]; exact n0 b x1
    · rw [s8 b (by omega), e2 b (by omega) (by omega)]; exact ncc b (by omega) (by omega)
    · rw [s10' 40 (by omega) (by omega) (by omega), e1' 40 (by omega) (by omega)]; exact r1
    · rw [z3b]; exact b76 b y1 y2 y4 y5 y6 y7 y8 y9 y10 y11 y12 y13 y14 y15 y16 y17
    · rw [s10' 40 (by omega) (by omega) (by omega), e1' 40 (by omega) (by omega), r0, z3b]; exact z31.symm
    · rw [z3b]; exact z29
    · rw [s4 12 (by decide) (by decide), e1' 0 (by omega) (by omega), n12, z3b, z20, hh]
    · rw [s4 13 (by decide) (by decide), e1' 0 (by omega) (by omega), n0 13 (by decide), z3b, b76 21 (by decide) (by decide) (by decide) (by decide) (by decide) (by decide) (by decide) (by decide) (by decide) (by decide) (by decide) (by decide) (by decide) (by decide) (by decide) (by decide), hh]
    · rw [s2, h214]
    · rw [z3b]; exact z19
    · rw [z3b]; exact z45
    · rw [s6, h214]
    · rw [s7, e1' 14 (by omega) (by omega), f14]
    · rw [e3' _ (by decide) (by decide)]; exact z88
    · rw [e3' _ (by decide) (by decide)]; exact z89
    · rw [e3' _ (by decide) (by decide)]; exact z90
    · rw [s9 w hw, e1' 8 (by omega) (by omega), f8]
    · rw [e3' _ (by decide) (by decide)]; exact z91 w hw
    · rw [c11, e3' 1087 (by decide) (by decide), z87]
      by_cases e0 : r.1 = 0
      · exact Or.inl ⟨e0, by rw [if_pos e0]⟩
      · exact Or.inr ⟨e0, by rw [if_neg e0]⟩
    · rw [c11] at hh
      rw [e3' 1092 (by decide) (by decide), z92, if_pos hh]
    · refine cv_fr (v1 x hx) ?_ ?_
      · rw [s10' _ (by omega) (by omega) (by omega), e1' _ (by omega) (by omega)]
      · rw [s10' _ (by omega) (by omega) (by omega), e1' _ (by omega) (by omega)]
    · rw [c11] at hh
      exact mv_fr (hgv hh x hx) (fun b _ _ => by rw [e3' 1093 (by decide) (by decide)])
    · rw [c11] at hh
      have e26 : gvs (rdA T lang).2.2.2.2.2.1 (rdA T lang).2.2.2.2.2.2.1 r.2.2.1 26 = r.2.2.1 26 := by unfold gvs; rw [if_pos (Or.inl rfl)]
      rw [e26]
      exact mv_fr (hrs hh) (fun b _ _ => by rw [e3' 1094 (by decide) (by decide)])
    · rw [c11] at hh
      unfold gvs
      rw [if_pos (Or.inr hb)]
      exact evl_told C.2.2.1.1 C.1 C.2.1 hr hh x hx hb
    · rw [c11] at hh
      rw [e3' 1092 (by decide) (by decide), z92, if_neg hh, c11, c12]
    · obtain ⟨v, hv⟩ := hv2 j x hj hx
      exact ⟨v, mv_fr hv (fun b _ _ => by rw [e3' 1093 (by decide) (by decide)])⟩
    · exact PAST_mv P3 (s8 8 (by omega)) (s8 9 (by omega)) (fun z a b => s10' z (by omega) (by omega) (by omega)) rfl (fun kk _ _ => ⟨fun _ _ => rfl, rfl, fun _ _ => rfl, fun _ _ => rfl, fun _ _ => rfl⟩)
    · obtain ⟨a1, a2, a3, a4⟩ := d1
      have sm : ∀ z, 64 * c + 65 ≤ z → z ≤ 64 * c + 68 → h3 z = h1 z := fun z b1 b2 => by rw [s10' z (by omega) (by omega) (by omega), e1' z (by omega) (by omega)]
      exact ⟨tx_fr2 a1 (sm _ (by omega) (by omega)) (sm _ (by omega) (by omega)), a2, by rw [sm _ (by omega) (by omega)]; exact a3, fun i hi => by rw [sm _ (by omega) (by omega)]; exact a4 i hi⟩
    · obtain ⟨a1, a2, a3, a4, a5, a6⟩ := hd1
      exact ⟨a1, fun j hj => by rw [e3' 1097 (by decide) (by decide)]; exact a2 j hj, by rw [e3' 1098 (by decide) (by decide)]; exact a3, by rw [e3' 1096 (by decide) (by decide)]; exact a4, a5, fun j hj => by rw [e3' 1095 (by decide) (by decide)]; exact a6 j hj⟩
  by_cases e0 : r.1 = 0
  · -- it ran well: it may be remembered
    have hv2' : vld m2 1093 := hv2
    have mo : ∀ q, (q = 1083 ∨ q = 1084 ∨ q = 1085 ∨ q = 1112 ∨ q = 1115) → m2 q = m q := fun q hq => mq q (Or.inl (by unfold mrP evgP evfP; omega))
    obtain ⟨fe, hF, hfe⟩ := hX m2 0 (by decide) (b76 2 (by decide) (by decide) (by decide) (by decide) (by decide) (by decide) (by decide) (by decide) (by decide) (by decide) (by decide) (by decide) (by decide) (by decide) (by decide) (by decide)) (b76 48 (by decide) (by decide) (by decide) (by decide) (by decide) (by decide) (by decide) (by decide) (by decide) (by decide) (by decide) (by decide) (by decide) (by decide) (by decide) (by decide)) (mo _ (by omega)) (mo _ (by omega)) (mo _ (by omega)) (mo _ (by omega)) (mo _ (by omega)) ho.2.2.1 hv2'
    have e26 : gvs (rdA T lang).2.2.2.2.2.1 (rdA T lang).2.2.2.2.2.2.1 r.2.2.1 26 = r.2.2.1 26 := by unfold gvs; rw [if_pos (Or.inl rfl)]
    obtain ⟨h2, m3, x1, x2, x3, x4, x5, x6, x7⟩ := keep (h := h1) (m := m2) (T := T) (c := c) (e := e) (fe := fe) (V := gvs (rdA T lang).2.2.2.2.2.1 (rdA T lang).2.2.2.2.2.2.1 r.2.2.1) (us := (rdA T lang).2.2.2.2.2.2.2) P2 hc C2.2.2.1 (fun i hi => cv_fr (hW i hi) (fz _ (by omega) (by omega) (by omega) (by omega) (by omega) (by omega) (by omega) (by omega)) (fz _ (by omega) (by omega) (by omega) (by omega) (by omega) (by omega) (by omega) (by omega))) v1 C2.2.2.2.2.1 C2.2.2.2.2.2.2.1.2.2 rfl hF z29 C2.2.2.2.2.2.2.2.1 (fun x hx hu => ⟨hfe x hx hu, evl_used C.2.2.1.1 C.1 C.2.1 hr e0 x hx hu⟩) he0 (fun x hx => hgv e0 x hx) (by rw [e26]; exact hrs e0) (fun x hx hb => by unfold gvs; rw [if_pos (Or.inr hb)]; exact evl_told C.2.2.1.1 C.1 C.2.1 hr e0 x hx hb) hno
    obtain ⟨h3, y1, y2, y3⟩ := fin h2 m3 x3 x4 x5 x6 x7 ⟨fun _ => x2, fun hh => absurd e0 hh⟩
    refine ⟨h3, m3, ?_, ?_, y2, ?_, fun _ x hx hu => evl_used C.2.2.1.1 C.1 C.2.1 hr e0 x hx hu⟩
    · rw [beg, r11, if_pos e0, x1]
      exact y1
    · rw [p2, if_pos e0]; exact x2
    · rw [x5 1076 (by decide)]; exact z20
  · obtain ⟨h3, y1, y2, y3⟩ := fin h1 m2 (w_fr_refl _ _) (fun _ _ _ => rfl) (w_fr_refl _ _) ⟨fun _ _ => rfl, fun _ _ => ⟨fun _ _ => rfl, rfl, fun _ _ => rfl, fun _ _ => rfl, fun _ _ => rfl⟩⟩ ⟨pc, po, F, P2⟩ ⟨fun hh => absurd hh e0, fun _ => rfl⟩
    refine ⟨h3, m2, ?_, ?_, y2, z20, fun hh => absurd (y3.symm.trans hh) e0⟩
    · rw [beg, r11, if_neg e0]; exact y1
    · rw [p2, if_neg e0]
end SA0
