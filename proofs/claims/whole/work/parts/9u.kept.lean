/-! ===== a run is remembered ===== -/
/-- outside the rows of the kept runs of one cell nothing changes -/
def pfr (c : Nat) (m m' : Hp) : Prop := (∀ b, b ≠ c → m' 1100 b = m 1100 b) ∧ ∀ k, k < 4 * c ∨ 4 * c + 4 ≤ k → (∀ b, b < 40 → m' 1101 (40 * k + b) = m 1101 (40 * k + b)) ∧ m' 1102 k = m 1102 k ∧ (∀ b, b < 234 → m' 1103 (234 * k + b) = m 1103 (234 * k + b)) ∧ (∀ b, b < 234 → m' 1104 (234 * k + b) = m 1104 (234 * k + b)) ∧ ∀ b, b < 9 → m' 1105 (9 * k + b) = m 1105 (9 * k + b)
section S9u
variable {h h' m m' g : Hp} {T : List Int32} {c : Nat} {lang : Int32} {pc po : Nat} {F : Nat → KEn} {e fe V : Nat → Option VL}
theorem mv_cq {r r2 o o2 : Nat} {v : Option VL} (H : mv m r o v) (hb : ∀ b, b < 9 → m' r2 (o2 + b) = m r (o + b)) : mv m' r2 o2 v := by
  cases v with
  | none => exact (hb 0 (by decide)).trans H
  | some v =>
    cases v with
    | inl n => exact ⟨(hb 0 (by decide)).trans H.1, (hb 1 (by decide)).trans H.2⟩
    | inr l =>
      refine ⟨H.1, (hb 0 (by decide)).trans H.2.1, fun j hj => ?_⟩
      have h8 := H.1
      have := hb (1 + j) (by omega)
      rw [← Nat.add_assoc, ← Nat.add_assoc] at this
      exact this.trans (H.2.2 j hj)
theorem FH_mv {how : Int32} (hF : FH c how fe m) (a : m' 1076 2 = m 1076 2) (b : m' 1076 48 = m 1076 48) (e1 : m' 1083 = m 1083) (e2 : m' 1084 = m 1084) (e3 : m' 1085 = m 1085) (e4 : m' 1112 = m 1112) (e5 : m' 1115 = m 1115) (e6 : m' 1093 = m 1093) (e7 : m' 1123 = m 1123) : FH c how fe m' := fun g' a1 a2 a3 a4 a5 a6 a7 a8 a9 a10 => hF g' (a1.trans a) (a2.trans b) a3 (a4.trans e1) (a5.trans e2) (a6.trans e3) (a7.trans e4) (a8.trans e5) (a9.trans e6) (a10.trans e7)
theorem PAST_mv (P : PAST h m c lang pc po F) (h0 : h' (64 * c + 52) 8 = h (64 * c + 52) 8) (h1 : h' (64 * c + 52) 9 = h (64 * c + 52) 9) (hh : ∀ z, 64 * c + 80 < z → z < 64 * c + 116 → h' z = h z) (m0 : m' 1100 c = m 1100 c) (mm : ∀ k, 4 * c ≤ k → k < 4 * c + 4 → (∀ b, b < 40 → m' 1101 (40 * k + b) = m 1101 (40 * k + b)) ∧ m' 1102 k = m 1102 k ∧ (∀ b, b < 234 → m' 1103 (234 * k + b) = m 1103 (234 * k + b)) ∧ (∀ b, b < 234 → m' 1104 (234 * k + b) = m 1104 (234 * k + b)) ∧ ∀ b, b < 9 → m' 1105 (9 * k + b) = m 1105 (9 * k + b)) : PAST h' m' c lang pc po F := by
  obtain ⟨a1, a2, a3, a4, a5, a6, a7, a8⟩ := P
  refine ⟨a1, a2, a3, h0.trans a4, h1.trans a5, m0.trans a6, fun i hi => ?_, a8⟩
  have hs := sgm_lt a1 a2 a3 hi
  have K := a7 i hi
  generalize sgm pc po i = s at *
  obtain ⟨b1, b2, b3, b4, b5⟩ := mm (4 * c + i) (by omega) (by omega)
  exact KE_mv K (congrFun (hh _ (by omega) (by omega)) 1) (hh _ (by omega) (by omega)) (hh _ (by omega) (by omega)) (hh _ (by omega) (by omega)) (hh _ (by omega) (by omega)) (hh _ (by omega) (by omega)) b1 b2 b3 b4 b5
/-- the class remembers -/
theorem c_3 (hc : c < 16) (hpo : po < 4) (hpc : pc ≤ 4) (h8 : h (64 * c + 52) 8 = Int32.ofNat pc) (h9 : h (64 * c + 52) 9 = Int32.ofNat po) (hT : tx h (64 * c + 53) T) (hW : ∀ i, i < 27 → cv h 45 i (e i)) (hV : ∀ i, i < 27 → cv h (64 * c + 59) i (V i)) (ho : opn T T.length = false) : ∃ h', p_3 h (64 * c + 52) 45 = some h' ∧ tx h' (64 * c + 80 + 9 * po + 1) T ∧ (∀ x, x < 27 → cv h' (64 * c + 80 + 9 * po + 3) x (e x)) ∧ (∀ x, x < 27 → cv h' (64 * c + 80 + 9 * po + 6) x (V x)) ∧ w_fr (fun z => z = 64 * c + 52 ∨ (64 * c + 80 + 9 * po < z ∧ z ≤ 64 * c + 80 + 9 * po + 8)) h h' ∧ (∀ b, b ≠ 8 → b ≠ 9 → h' (64 * c + 52) b = h (64 * c + 52) b) ∧ h' (64 * c + 52) 8 = Int32.ofNat (min (pc + 1) 4) ∧ h' (64 * c + 52) 9 = Int32.ofNat ((po + 1) % 4) := by
  obtain ⟨g, p, t1, t2, t3, f, b1⟩ := c_13 (q := 64 * c + 80 + 9 * po) (t := 64 * c + 53) (u := 45) (g := 64 * c + 59) (h := h) hT hW hV (fun j h1 h2 => by omega) (fun j h1 h2 => by omega) (fun j h1 h2 => by omega) (by omega) (by omega)
  have g0 : g (64 * c + 52) = h (64 * c + 52) := f _ (by omega)
  have a9 : (Int32.ofNat po + 1) - (Int32.ofNat po + 1) / 4 * 4 = Int32.ofNat ((po + 1) % 4) := by
    rcases (by omega : po = 0 ∨ po = 1 ∨ po = 2 ∨ po = 3) with h | h | h | h <;> subst h <;> decide
  have a8 : (if 4 < (Int32.ofNat pc + 1) then 4 else (Int32.ofNat pc + 1) : Int32) = Int32.ofNat (min (pc + 1) 4) := by
    rcases (by omega : pc = 0 ∨ pc = 1 ∨ pc = 2 ∨ pc = 3 ∨ pc = 4) with h | h | h | h | h <;> subst h <;> decide
  generalize hg1 : w_up g (64 * c + 52) 9 (Int32.ofNat ((po + 1) % 4)) = g1
  have g18 : g1 (64 * c + 52) 8 = Int32.ofNat pc := by rw [← hg1, w_up_b (by decide), g0, h8]
  refine ⟨w_up g1 (64 * c + 52) 8 (Int32.ofNat (min (pc + 1) 4)), ?_, ?_, fun x hx => ?_, fun x hx => ?_, fun z hz => ?_, fun b h1 h2 => ?_, w_up_at, ?_⟩
  · unfold p_3
    rw [c_1 hT, ho]
    simp only [Option.bind_some]
    rw [if_neg (by decide), h9, u_ix hpo (by decide), u_cl (by omega)]
    simp only [w_gd]
    rw [show 9 * po + (64 * c + 52) + 28 = 64 * c + 80 + 9 * po by omega, p]
    simp only [Option.bind_some, w_let]
    rw [g0, h9, a9, hg1, g18, a8]
  · have q1 : ∀ z, z ≠ 64 * c + 52 → (w_up g1 (64 * c + 52) 8 (Int32.ofNat (min (pc + 1) 4))) z = g z := fun z hz => funext fun b => by rw [w_up_q hz, ← hg1, w_up_q hz]
    exact tx_fr2 t1 (q1 _ (by omega)) (q1 _ (by omega))
  · have q1 : ∀ z, z ≠ 64 * c + 52 → (w_up g1 (64 * c + 52) 8 (Int32.ofNat (min (pc + 1) 4))) z = g z := fun z hz => funext fun b => by rw [w_up_q hz, ← hg1, w_up_q hz]
    exact cv_fr (t2 x hx) (q1 _ (by omega)) (q1 _ (by omega))
  · have q1 : ∀ z, z ≠ 64 * c + 52 → (w_up g1 (64 * c + 52) 8 (Int32.ofNat (min (pc + 1) 4))) z = g z := fun z hz => funext fun b => by rw [w_up_q hz, ← hg1, w_up_q hz]
    exact cv_fr (t3 x hx) (q1 _ (by omega)) (q1 _ (by omega))
  · have q1 : ∀ z, z ≠ 64 * c + 52 → (w_up g1 (64 * c + 52) 8 (Int32.ofNat (min (pc + 1) 4))) z = g z := fun z hz => funext fun b => by rw [w_up_q hz, ← hg1, w_up_q hz]
    rw [q1 z (by omega)]; exact f z (by omega)
  · rw [w_up_b h1, ← hg1, w_up_b h2, g0]
  · rw [w_up_b (by decide), ← hg1]; exact w_up_at
theorem c_3o (hT : tx h (64 * c + 53) T) (ho : opn T T.length = true) : p_3 h (64 * c + 52) 45 = some h := by
  unfold p_3
  rw [c_1 hT, ho]
  simp only [Option.bind_some]
  rw [if_pos (by decide)]
/-- a run with a value for each of its names is kept by both, or by neither -/
theorem keep {us : Int32} (P : PAST h m c lang pc po F) (hc : c < 16) (hT : tx h (64 * c + 53) T) (hW : ∀ i, i < 27 → cv h 45 i (e i)) (hV : ∀ i, i < 27 → cv h (64 * c + 59) i (V i)) (MT : mt m c T) (hus : m 1085 c = us) (hus2 : us = (rdA T lang).2.2.2.2.2.2.2) (hF : FH c 0 fe m) (h29 : m 1076 29 = 0) (hop : m 1086 c = ofB (opn T T.length)) (he : ∀ x, x < 26 → bt us x = true → e x = fe x ∧ (e x).isSome = true) (he0 : ∀ x, x < 27 → ¬ (x < 26 ∧ bt us x = true) → e x = none) (mV : ∀ x, x < 26 → mv m 1093 (234 * c + 9 * x) (V x)) (mR : mv m 1094 (9 * c) (V 26)) (told : ∀ x, x < 26 → bt ((rdA T lang).2.2.2.2.2.1 ||| (rdA T lang).2.2.2.2.2.2.1) x = true → (V x).isSome = true) (hno : opn T T.length = false → ∀ s, s < pc → ¬ mat T e (F s)) : ∃ h' m', p_3 h (64 * c + 52) 45 = some h' ∧ p_222 m (Int32.ofNat c) = some m' ∧ w_fr (fun z => z = 64 * c + 52 ∨ (64 * c + 80 < z ∧ z < 64 * c + 116)) h h' ∧ (∀ b, b ≠ 8 → b ≠ 9 → h' (64 * c + 52) b = h (64 * c + 52) b) ∧ w_fr (fun q => q = 1132 ∨ (1100 ≤ q ∧ q ≤ 1105)) m m' ∧ pfr c m m' ∧ ∃ pc' po' F', PAST h' m' c lang pc' po' F' := by
  have e4 : (4 : Int32) * Int32.ofNat c = Int32.ofNat (4 * c) := by rw [show (4 : Int32) = Int32.ofNat 4 from rfl, u_mul]
  cases ho : opn T T.length with
  | true =>
    refine ⟨h, m, c_3o hT ho, ?_, w_fr_refl _ _, fun _ _ _ => rfl, w_fr_refl _ _, ⟨fun _ _ => rfl, fun _ _ => ⟨fun _ _ => rfl, rfl, fun _ _ => rfl, fun _ _ => rfl, fun _ _ => rfl⟩⟩, pc, po, F, P⟩
    unfold p_222
    rw [u_ix hc (by decide), u_cl (by omega), hop, ho]
    simp only [w_gd]
    rw [if_neg (by decide)]
  | false =>
    have hno := hno ho
    obtain ⟨m1, f1, r⟩ := m_220 P hc MT hus hus2 hF h29 (fun x hx hu => (he x hx hu).1) he0
    have r1 : p_220 m (Int32.ofNat c) = some (-1, m1) := by
      rcases r with ⟨i, hi, hm, -⟩ | ⟨-, r⟩
      · exact absurd hm (hno _ (sgm_lt P.1 P.2.1 P.2.2.1 hi))
      · exact r
    obtain ⟨P1, P2, P3, P4, P5, P6, P7, P8⟩ := P
    obtain ⟨h1, k1, k2, k3, k4, k5, k6, k7, k8⟩ := c_3 hc P2 P1 P4 P5 hT hW hV ho
    have m1q : ∀ q, q ≠ 1132 → m1 q = m q := fun q hq => f1 q hq
    -- the new one, wherever it lies
    have newKE : ∀ (m' : Hp) (k : Nat), tm m' 1101 (40 * k) T → m' 1102 k = Int32.ofNat T.length → (∀ x, x < 26 → bt us x = true → mv m' 1103 (234 * k + 9 * x) (fe x)) → (∀ b, b < 234 → m' 1104 (234 * k + b) = m 1093 (234 * c + b)) → (∀ b, b < 9 → m' 1105 (9 * k + b) = m 1094 (9 * c + b)) → KE h1 m' (64 * c + 80 + 9 * po) 1101 1102 1103 1104 1105 k lang (T, e, V) := by
      intro m' k a1 a2 a3 a4 a5
      refine ⟨k2, a1, a2, k3, fun x hx hu => ?_, fun x hx hu => he0 x hx (by rw [hus2]; exact hu), k4, fun x hx => ?_, ?_, told⟩
      · rw [← hus2] at hu
        have := he x hx hu
        refine ⟨?_, this.2⟩
        show mv m' 1103 (234 * k + 9 * x) (e x)
        rw [this.1]; exact a3 x hx hu
      · exact mv_cq (r := 1093) (r2 := 1104) (o := 234 * c + 9 * x) (o2 := 234 * k + 9 * x) (mV x hx) (fun b hb => by rw [Nat.add_assoc, Nat.add_assoc]; exact a4 (9 * x + b) (by omega))
      · exact mv_cq (r := 1094) (r2 := 1105) (o := 9 * c) (o2 := 9 * k) mR (fun b hb => a5 b hb)
    have uniq : ∀ s t, s < min (pc + 1) 4 → t < min (pc + 1) 4 → sme (if s = po then (T, e, V) else F s) (if t = po then (T, e, V) else F t) → s = t := by
      intro s t hs ht h
      by_cases es : s = po
      · by_cases et : t = po
        · rw [es, et]
        · rw [if_pos es, if_neg et] at h
          exact absurd ⟨h.1.symm, fun x hx => (h.2 x hx).symm⟩ (hno t (by omega))
      · by_cases et : t = po
        · rw [if_neg es, if_pos et] at h
          exact absurd ⟨h.1, fun x hx => h.2 x hx⟩ (hno s (by omega))
        · rw [if_neg es, if_neg et] at h
          exact P8 s t (by omega) (by omega) h
    have hfrc : w_fr (fun z => z = 64 * c + 52 ∨ (64 * c + 80 < z ∧ z < 64 * c + 116)) h h1 := fun z hz => k5 z (by omega)
    by_cases h4 : pc = 4
    · subst h4
      obtain ⟨g, p, fg, g1, g2, g3, g4, g5⟩ := m_shift (m := m1) hc
      have gq : ∀ q, q ≠ 1132 → (q < 1101 ∨ 1105 < q) → g q = m q := fun q h1 h2 => by rw [fg q (by omega), m1q q h1]
      generalize hg2' : w_up g 1100 c 3 = gg
      have ggq : ∀ q, q ≠ 1100 → gg q = g q := fun q hq => by rw [← hg2']; exact funext fun b => w_up_q hq
      have FG' : FH c 0 fe gg := FH_mv hF (by rw [ggq _ (by decide), gq _ (by decide) (by decide)]) (by rw [ggq _ (by decide), gq _ (by decide) (by decide)]) (by rw [ggq _ (by decide), gq _ (by decide) (by decide)]) (by rw [ggq _ (by decide), gq _ (by decide) (by decide)]) (by rw [ggq _ (by decide), gq _ (by decide) (by decide)]) (by rw [ggq _ (by decide), gq _ (by decide) (by decide)]) (by rw [ggq _ (by decide), gq _ (by decide) (by decide)]) (by rw [ggq _ (by decide), gq _ (by decide) (by decide)]) (by rw [ggq _ (by decide), gq _ (by decide) (by decide)])
      have MTg : mt gg c T := ⟨MT.1, by rw [ggq 1080 (by decide), gq 1080 (by decide) (by decide)]; exact MT.2.1, fun j hj => by rw [ggq 1079 (by decide), gq 1079 (by decide) (by decide)]; exact MT.2.2 j hj⟩
      obtain ⟨m2, n1, n2, n3, n4, n5, n6, n7, n8, n9, n10, n11, n12, n13⟩ := m_98 (m := gg) (T := T) (km := 3) (us := us) (fe := fe) hc (by decide) (by rw [← hg2']; exact w_up_at) MTg (by rw [ggq 1085 (by decide), gq 1085 (by decide) (by decide)]; exact hus) FG' (by rw [ggq 1076 (by decide), gq 1076 (by decide) (by decide)]; exact h29)
      have n8' : ∀ b, b < 234 → m2 1104 (234 * (4 * c + 3) + b) = m 1093 (234 * c + b) := fun b hb => by rw [n8 b hb, ggq _ (by decide), gq 1093 (by decide) (by decide)]
      have n9' : ∀ b, b < 9 → m2 1105 (9 * (4 * c + 3) + b) = m 1094 (9 * c + b) := fun b hb => by rw [n9 b hb, ggq _ (by decide), gq 1094 (by decide) (by decide)]
      -- what the rest of the rows hold
      have rest : ∀ k, k ≠ 4 * c + 3 → (∀ b, b < 40 → m2 1101 (40 * k + b) = m 1101 (40 * shx c 3 k + b)) ∧ m2 1102 k = m 1102 (shx c 3 k) ∧ (∀ b, b < 234 → m2 1103 (234 * k + b) = m 1103 (234 * shx c 3 k + b)) ∧ (∀ b, b < 234 → m2 1104 (234 * k + b) = m 1104 (234 * shx c 3 k + b)) ∧ ∀ b, b < 9 → m2 1105 (9 * k + b) = m 1105 (9 * shx c 3 k + b) := by
        intro k hk
        refine ⟨fun b hb => ?_, ?_, fun b hb => ?_, fun b hb => ?_, fun b hb => ?_⟩
        · rw [n10 k b hk hb, ggq _ (by decide), g1 k b hb, m1q _ (by decide)]
        · rw [n11 k hk, ggq _ (by decide), g2 k, m1q _ (by decide)]
        · rw [(n12 k b hk hb).1, ggq _ (by decide), g3 k b hb, m1q _ (by decide)]
        · rw [(n12 k b hk hb).2, ggq _ (by decide), g4 k b hb, m1q _ (by decide)]
        · rw [n13 k b hk hb, ggq _ (by decide), g5 k b hb, m1q _ (by decide)]
      refine ⟨h1, m2, k1, ?_, hfrc, k6, fun q hq => ?_, ⟨fun b hb => ?_, fun k hk => ?_⟩, 4, (po + 1) % 4, fun s => if s = po then (T, e, V) else F s, Nat.le_refl 4, Nat.mod_lt _ (by decide), fun h => absurd h (by decide), k7, k8, n3, fun i hi => ?_, fun s t hs ht => uniq s t (by omega) (by omega)⟩
      · unfold p_222
        rw [u_ix hc (by decide), u_cl (by omega), hop, ho]
        simp only [w_gd]
        rw [if_pos (by rfl), r1]
        simp only [Option.bind_some]
        rw [if_pos True.intro, m1q 1100 (by decide), P6, if_pos (by rfl), e4, p]
        simp only [Option.bind_some, w_let]
        rw [show g 1100 c = Int32.ofNat 4 by rw [gq 1100 (by decide) (by decide)]; exact P6, show (Int32.ofNat 4 - 1 : Int32) = 3 from by decide, hg2']
        exact n1
      · rw [n2 q hq, ggq q (by omega), gq q (by omega) (by omega)]
      · rw [n4 b hb, ← hg2', w_up_b hb, gq 1100 (by decide) (by decide)]
      · have := rest k (by omega)
        rw [show shx c 3 k = k by unfold shx; rw [if_neg (by omega)]] at this
        exact this
      · by_cases e3 : i = 3
        · subst e3
          have : sgm 4 ((po + 1) % 4) 3 = po := by unfold sgm; omega
          rw [this]
          dsimp only
          rw [if_pos rfl]
          exact newKE m2 (4 * c + 3) n5 n6 n7 n8' n9'
        · have es : sgm 4 ((po + 1) % 4) i = sgm 4 po (i + 1) := by unfold sgm; omega
          have hne : sgm 4 po (i + 1) ≠ po := by unfold sgm; omega
          rw [es]
          dsimp only
          rw [if_neg hne]
          have hs : sgm 4 po (i + 1) < 4 := by unfold sgm; omega
          have K := P7 (i + 1) (by omega)
          generalize sgm 4 po (i + 1) = s at *
          have R := rest (4 * c + i) (by omega)
          rw [show shx c 3 (4 * c + i) = 4 * c + (i + 1) by unfold shx; rw [if_pos (by omega)]; omega] at R
          exact KE_mv K (congrFun (k5 _ (by omega)) 1) (k5 _ (by omega)) (k5 _ (by omega)) (k5 _ (by omega)) (k5 _ (by omega)) (k5 _ (by omega)) R.1 R.2.1 R.2.2.1 R.2.2.2.1 R.2.2.2.2
    · have epo := P3 (by omega)
      subst epo
      have FG' : FH c 0 fe m1 := FH_mv hF (by rw [m1q _ (by decide)]) (by rw [m1q _ (by decide)]) (by rw [m1q _ (by decide)]) (by rw [m1q _ (by decide)]) (by rw [m1q _ (by decide)]) (by rw [m1q _ (by decide)]) (by rw [m1q _ (by decide)]) (by rw [m1q _ (by decide)]) (by rw [m1q _ (by decide)])
      have MTg : mt m1 c T := ⟨MT.1, by rw [m1q 1080 (by decide)]; exact MT.2.1, fun j hj => by rw [m1q 1079 (by decide)]; exact MT.2.2 j hj⟩
      obtain ⟨m2, n1, n2, n3, n4, n5, n6, n7, n8, n9, n10, n11, n12, n13⟩ := m_98 (m := m1) (T := T) (km := po) (us := us) (fe := fe) hc P2 (by rw [m1q 1100 (by decide)]; exact P6) MTg (by rw [m1q 1085 (by decide)]; exact hus) FG' (by rw [m1q 1076 (by decide)]; exact h29)
      have n8' : ∀ b, b < 234 → m2 1104 (234 * (4 * c + po) + b) = m 1093 (234 * c + b) := fun b hb => by rw [n8 b hb, m1q 1093 (by decide)]
      have n9' : ∀ b, b < 9 → m2 1105 (9 * (4 * c + po) + b) = m 1094 (9 * c + b) := fun b hb => by rw [n9 b hb, m1q 1094 (by decide)]
      have rest : ∀ k, k ≠ 4 * c + po → (∀ b, b < 40 → m2 1101 (40 * k + b) = m 1101 (40 * k + b)) ∧ m2 1102 k = m 1102 k ∧ (∀ b, b < 234 → m2 1103 (234 * k + b) = m 1103 (234 * k + b)) ∧ (∀ b, b < 234 → m2 1104 (234 * k + b) = m 1104 (234 * k + b)) ∧ ∀ b, b < 9 → m2 1105 (9 * k + b) = m 1105 (9 * k + b) := by
        intro k hk
        refine ⟨fun b hb => ?_, ?_, fun b hb => ?_, fun b hb => ?_, fun b hb => ?_⟩
        · rw [n10 k b hk hb, m1q _ (by decide)]
        · rw [n11 k hk, m1q _ (by decide)]
        · rw [(n12 k b hk hb).1, m1q _ (by decide)]
        · rw [(n12 k b hk hb).2, m1q _ (by decide)]
        · rw [n13 k b hk hb, m1q _ (by decide)]
      have sg0 : ∀ i, i < 4 → sgm po po i = i := fun i hi => by unfold sgm; omega
      refine ⟨h1, m2, k1, ?_, hfrc, k6, fun q hq => ?_, ⟨fun b hb => ?_, fun k hk => ?_⟩, po + 1, (po + 1) % 4, fun s => if s = po then (T, e, V) else F s, by omega, Nat.mod_lt _ (by decide), fun h => Nat.mod_eq_of_lt h, ?_, k8, n3, fun i hi => ?_, fun s t hs ht => uniq s t (by omega) (by omega)⟩
      · unfold p_222
        rw [u_ix hc (by decide), u_cl (by omega), hop, ho]
        simp only [w_gd]
        rw [if_pos (by rfl), r1]
        simp only [Option.bind_some]
        rw [if_pos True.intro, m1q 1100 (by decide), P6, if_neg (fun h => h4 ((u_eqL (n := 4) (by omega) (by decide)).mp h))]
        exact n1
      · rw [n2 q hq, m1q q (by omega)]
      · rw [n4 b hb, m1q 1100 (by decide)]
      · exact rest k (by omega)
      · rw [k7]; congr 1; omega
      · have es : sgm (po + 1) ((po + 1) % 4) i = i := by unfold sgm; omega
        rw [es]
        dsimp only
        by_cases e3 : i = po
        · subst e3
          rw [if_pos rfl]
          exact newKE m2 (4 * c + i) n5 n6 n7 n8' n9'
        · rw [if_neg e3]
          have K := P7 i (by omega)
          rw [sg0 i (by omega)] at K
          have R := rest (4 * c + i) (by omega)
          exact KE_mv K (congrFun (k5 _ (by omega)) 1) (k5 _ (by omega)) (k5 _ (by omega)) (k5 _ (by omega)) (k5 _ (by omega)) (k5 _ (by omega)) R.1 R.2.1 R.2.2.1 R.2.2.2.1 R.2.2.2.2
end S9u
