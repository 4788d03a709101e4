/-! ===== a cell is reckoned: the model, all ===== -/
def mevP (q3 q4 q : Nat) : Prop := q = 1076 ∨ q = 1099 ∨ q = 1127 ∨ evgP q4 q ∨ q = q3
def q34 (q3 q4 : Nat) : Prop := (q3 = 1093 ∧ q4 = 1094) ∨ (q3 = 1123 ∧ q4 = 1124)
section S9n
variable {T : List Int32} {c q3 q4 : Nat} {p : DP} {e fe : Nat → Option VL} {lang : Int32} {m m' : Hp}
theorem w_len_q3 (h : q34 q3 q4) : w_len q3 = 3744 := by rcases h with ⟨rfl, -⟩ | ⟨rfl, -⟩ <;> decide +kernel
theorem m_93 {df ch : Int32} {v : Nat → Option VL} {x : Int32} (hq : q34 q3 q4) (hc : c < 16) (h1 : m 1083 c = df) (h2 : m 1084 c = ch) (h75 : m 1076 75 = x) (hv : x = 0 → ∀ j, j < 26 → bt (df ||| ch) j = true → mv m 1131 (9 * j) (v j)) : ∃ m', q_216_93 m (Int32.ofNat c) q3 = some (ofB (decide (x = 0)), m') ∧ w_fr (fun q => q = q3 ∨ q = 1076) m m' ∧ (∀ b, b ≠ 29 → m' 1076 b = m 1076 b) ∧ m' 1076 29 = 0 ∧ (∀ b, b < 234 * c ∨ 234 * c + 234 ≤ b → m' q3 b = m q3 b) ∧ (∀ j, j < 26 → mv m' q3 (234 * c + 9 * j) (if x = 0 then gvs df ch v j else none)) := by
  have hlen := w_len_q3 hq
  have hne : q3 ≠ 1076 ∧ q3 ≠ 1131 := by unfold q34 at hq; omega
  have lp : ok (w_lp (fun (s : Int32 × Hp) => l_216_105 (Int32.ofNat c) q3 (df ||| ch) s.1 s.2) w_N (0, m)) (fun r => w_fr (fun q => q = q3) m r ∧ (∀ b, b < 234 * c ∨ 234 * c + 234 ≤ b → r q3 b = m q3 b) ∧ (∀ j, j < 26 → mv r q3 (234 * c + 9 * j) (if x = 0 then gvs df ch v j else none))) := by
    refine ok_for (fun i s => s.1 = Int32.ofNat i ∧ w_fr (fun q => q = q3) m s.2 ∧ (∀ b, b < 234 * c ∨ 234 * c + 234 ≤ b → s.2 q3 b = m q3 b) ∧ (∀ j, j < i → mv s.2 q3 (234 * c + 9 * j) (if x = 0 then gvs df ch v j else none))) 26 ⟨rfl, w_fr_refl _ _, fun _ _ => rfl, fun j hj => absurd hj (Nat.not_lt_zero j)⟩ (by decide) ?_ ?_
    · rintro i ⟨t, g⟩ hi ⟨e1, f, fb, hg⟩
      simp only at e1 f fb hg
      subst e1
      have hlt : Int32.ofNat i < 26 := (u_ltL (by omega) (by decide)).mpr hi
      have e234 : (234 : Int32) * Int32.ofNat c + 9 * Int32.ofNat i = Int32.ofNat (234 * c + 9 * i) := by
        rw [u_9, show (234 : Int32) = Int32.ofNat 234 from rfl, u_mul, u_add]
      show ok (l_216_105 (Int32.ofNat c) q3 (df ||| ch) (Int32.ofNat i) g) _
      unfold l_216_105
      rw [if_pos hlt, e234, u_ix (by omega) (by omega), u_cl (by omega)]
      simp only [w_gd, w_let]
      generalize hg2 : w_up g q3 (234 * c + 9 * i) (-2) = g2
      have f2 : w_fr (fun q => q = q3) m g2 := by rw [← hg2]; exact w_fr_up f rfl
      have fb2 : ∀ b, b < 234 * c ∨ 234 * c + 234 ≤ b → g2 q3 b = m q3 b := fun b hb => by rw [← hg2, w_up_b (by omega)]; exact fb b hb
      have hn2 : g2 q3 (234 * c + 9 * i) = -2 := by rw [← hg2]; exact w_up_at
      have ho2 : ∀ j, j < i → mv g2 q3 (234 * c + 9 * j) (if x = 0 then gvs df ch v j else none) := fun j hj => mv_fr (hg j hj) (fun b b1 b2 => by rw [← hg2, w_up_b (by omega)])
      have k75 : g2 1076 75 = x := by rw [f2 1076 (fun h => hne.1 h.symm)]; exact h75
      rw [k75, u_S]
      have plain : (if x = 0 then gvs df ch v i else none) = none → ok (some (.inl (Int32.ofNat (i + 1), g2)) : Option ((Int32 × Hp) ⊕ Hp)) (Sum.elim (fun s => s.1 = Int32.ofNat (i + 1) ∧ w_fr (fun q => q = q3) m s.2 ∧ (∀ b, b < 234 * c ∨ 234 * c + 234 ≤ b → s.2 q3 b = m q3 b) ∧ (∀ j, j < i + 1 → mv s.2 q3 (234 * c + 9 * j) (if x = 0 then gvs df ch v j else none))) (fun r => w_fr (fun q => q = q3) m r ∧ (∀ b, b < 234 * c ∨ 234 * c + 234 ≤ b → r q3 b = m q3 b) ∧ (∀ j, j < 26 → mv r q3 (234 * c + 9 * j) (if x = 0 then gvs df ch v j else none)))) := by
        intro hno
        refine ok_some ⟨rfl, f2, fb2, fun j hj => ?_⟩
        by_cases ej : j = i
        · subst ej
          rw [hno]; exact hn2
        · exact ho2 j (by omega)
      by_cases hx : x = 0
      · rw [if_pos hx, bt_shr (by omega)]
        by_cases hb : bt (df ||| ch) i = true
        · rw [if_pos (by rw [if_pos hb])]
          have cp := m_193 (m := g2) (r := 1131) (r2 := q3) (o := 9 * i) (o2 := 234 * c + 9 * i) (by rw [w_len_1131]; omega) (by rw [hlen]; omega) (by rw [w_len_1131]; omega) (by rw [hlen]; omega) (Or.inl (fun h => hne.2 h.symm))
          rw [u_9, cp]
          simp only [Option.bind_some]
          have hvi : mv g2 1131 (9 * i) (v i) := mv_fr (hv hx i hi hb) (fun b _ _ => by rw [f2 1131 (fun h => hne.2 h.symm)])
          refine ok_some ⟨rfl, fun q hq => ?_, fun b hb2 => ?_, fun j hj => ?_⟩
          · dsimp only
            rw [show w_fi g2 q3 (234 * c + 9 * i) 9 (fun k => g2 1131 (9 * i + k)) q = g2 q from funext fun b => w_fi_q hq]
            exact f2 q hq
          · dsimp only
            rw [w_fi_b (by omega)]; exact fb2 b hb2
          · by_cases ej : j = i
            · subst ej
              have : gvs df ch v j = v j := by unfold gvs; rw [if_pos (Or.inr hb)]
              rw [if_pos hx, this]
              exact mv_cp hvi
            · exact mv_fr (ho2 j (by omega)) (fun b b1 b2 => by dsimp only; rw [w_fi_b (by omega)])
        · rw [if_neg (by rw [if_neg hb]; decide)]
          refine plain ?_
          have hg0 : gvs df ch v i = none := by
            unfold gvs
            rw [if_neg (fun h => h.elim (by omega) hb)]
          rw [hg0, ite_self]
      · rw [if_neg hx]
        exact plain (by rw [if_neg hx])
    · rintro ⟨t, g⟩ ⟨e1, f, fb, hg⟩
      simp only at e1 f fb hg
      subst e1
      show ok (l_216_105 (Int32.ofNat c) q3 (df ||| ch) (Int32.ofNat 26) g) _
      unfold l_216_105
      rw [if_neg (show ¬ Int32.ofNat 26 < 26 by decide)]
      exact ok_some ⟨f, fb, hg⟩
  obtain ⟨g, l1, l2, l3, l4⟩ := lp
  have k75 : g 1076 75 = x := by rw [l2 1076 (fun h => hne.1 h.symm)]; exact h75
  refine ⟨w_up g 1076 29 0, ?_, fun q hq => ?_, fun b hb => ?_, w_up_at, fun b hb => ?_, fun j hj => mv_fr (l4 j hj) (fun b _ _ => w_up_q hne.1)⟩
  · unfold q_216_93
    rw [u_ix hc (by decide), u_cl (by omega), h1, h2]
    simp only [w_gd]
    rw [l1]
    simp only [Option.bind_some, w_let]
    rw [w_up_b (by decide), k75]
    congr 2
    by_cases hx : x = 0
    · rw [if_pos hx, decide_eq_true hx]; rfl
    · rw [if_neg hx, decide_eq_false hx]; rfl
  · rw [show w_up g 1076 29 0 q = g q from funext fun b => w_up_q (fun h => hq (Or.inr h))]
    exact l2 q (fun h => hq (Or.inl h))
  · rw [w_up_b hb, l2 1076 (fun h => hne.1 h.symm)]
  · rw [w_up_q hne.1]; exact l3 b hb
/-- the model reckons a cell -/
theorem m_216 {how : Int32} {D L : List Int32} (hq : q34 q3 q4) (hc : c < 16) (hlang : lang = 0 ∨ lang = 1 ∨ lang = 2) (hhow : how = 0 ∨ how = 1 ∨ how = 2) (hF : rdF T lang = -1) (MT : mt m c T) (hla : m 1081 c = lang) (hs : sts m c (rdA T lang).2.2.2.2.2.1 (rdA T lang).2.2.2.2.2.2.1 (rdA T lang).2.2.2.2.2.2.2) (hH : FH c how fe m) (hD : dr1 m c D L) (hp1 : how = 2 ↔ p.1 = true) (hp2 : p.2.1 = tld how D T L) (hp3 : p.2.2 = m 1076 32) (he : ∀ j, j < 26 → bt (rdA T lang).2.2.2.2.2.2.2 j = true → e j = fe j) (he26 : e 26 = none) : ∃ r, evl T lang p e (0, m 1076 31, []) = some r ∧ ∃ m', p_216 m (Int32.ofNat c) how q3 q4 = some (ofB (decide (r.1 = 0)), m') ∧ w_fr (mevP q3 q4) m m' ∧ (∀ b, b ≠ 28 → b ≠ 29 → b ≠ 30 → b ≠ 31 → b ≠ 66 → b ≠ 67 → b ≠ 70 → b ≠ 72 → b ≠ 74 → b ≠ 75 → b ≠ 76 → b ≠ 77 → b ≠ 80 → m' 1076 b = m 1076 b) ∧ m' 1076 29 = 0 ∧ m' 1076 30 = Int32.ofNat r.2.2.2.2.1 ∧ m' 1076 31 = r.2.2.2.2.2.1 ∧ (r.2.2.2.2.2.2.length = r.2.2.2.2.1 ∧ r.2.2.2.2.1 ≤ 40) ∧ (p.1 = false → ∀ i, i < r.2.2.2.2.1 → m' 1095 (40 * c + i) = r.2.2.2.2.2.2.getD i 0) ∧ (∀ b, b < 40 * c ∨ 40 * c + 40 ≤ b ∨ how = 2 → m' 1095 b = m 1095 b) ∧ (∀ b, b < 234 * c ∨ 234 * c + 234 ≤ b → m' q3 b = m q3 b) ∧ (∀ b, b < 9 * c ∨ 9 * c + 9 ≤ b → m' q4 b = m q4 b) ∧ (∀ j, j < 26 → mv m' q3 (234 * c + 9 * j) (if r.1 = 0 then gvs (rdA T lang).2.2.2.2.2.1 (rdA T lang).2.2.2.2.2.2.1 r.2.2.1 j else none)) ∧ (r.1 = 0 → mv m' q4 (9 * c) (r.2.2.1 26)) ∧ (¬ r.1 = 0 → m' 1076 75 = r.1 ∧ m' 1076 76 = r.2.1) := by
  have hT := MT.1
  have hq4 : qres q4 := by unfold q34 at hq; unfold qres; omega
  have hqn : q3 ≠ 1076 ∧ q3 ≠ 1099 ∧ q3 ≠ 1127 ∧ q3 ≠ q4 ∧ q4 ≠ 1076 ∧ q4 ≠ 1099 ∧ q4 ≠ 1127 ∧ q4 ≠ 1095 ∧ ¬ evgP q4 q3 ∧ q4 ≠ 1131 ∧ q4 ≠ 1093 ∧ q4 ≠ 1123 ∧ q3 ≠ 1131 ∧ q3 ≠ 1095 := by
    unfold evgP evfP; unfold q34 at hq; omega
  obtain ⟨d1, d2, d3, d4, d5, d6⟩ := hD
  -- the answers to be given again
  generalize htl : tld how D T L = tl at *
  have htl40 : tl.length ≤ 40 := by
    rw [← htl]; unfold tld; split
    · exact d5
    · exact Nat.zero_le _
  have htlr : ∀ i, i < tl.length → m 1095 (40 * c + i) = tl.getD i 0 := by
    intro i hi
    rw [← htl] at hi ⊢
    unfold tld at hi ⊢
    by_cases h : ¬ how = 0 ∧ D = T
    · rw [if_pos h] at hi ⊢; exact d6 i hi
    · rw [if_neg h] at hi; cases hi
  generalize hm1 : w_up (w_up (w_up m 1076 77 (Int32.ofNat c)) 1076 29 how) 1076 30 0 = m1
  have m1q : ∀ q, q ≠ 1076 → m1 q = m q := fun q hq => by rw [← hm1]; exact funext fun b => by rw [w_up_q hq, w_up_q hq, w_up_q hq]
  have m1b : ∀ b, b ≠ 77 → b ≠ 29 → b ≠ 30 → m1 1076 b = m 1076 b := fun b h1 h2 h3 => by rw [← hm1, w_up_b h3, w_up_b h2, w_up_b h1]
  have m177 : m1 1076 77 = Int32.ofNat c := by rw [← hm1, w_up_b (by decide), w_up_b (by decide), w_up_at]
  have m129 : m1 1076 29 = how := by rw [← hm1, w_up_b (by decide), w_up_at]
  have m130 : m1 1076 30 = 0 := by rw [← hm1]; exact w_up_at
  have MT1 : mt m1 c T := ⟨hT, by rw [m1q 1080 (by decide)]; exact MT.2.1, fun j hj => by rw [m1q 1079 (by decide)]; exact MT.2.2 j hj⟩
  have beg : p_216 m (Int32.ofNat c) how q3 q4 = q_216_31 m1 (Int32.ofNat c) q3 q4 (Int32.ofNat tl.length) := by
    unfold p_216
    simp only [w_let]
    rw [hm1]
    by_cases h0 : how = 0
    · rw [if_pos h0]
      unfold q_216_30
      have : tl = [] := by rw [← htl]; unfold tld; rw [if_neg (fun h => h.1 h0)]
      rw [this]; rfl
    · rw [if_neg h0, u_ix hc (by decide), u_cl (by omega), m1q 1098 (by decide), d3]
      simp only [w_gd]
      have e40 : (40 : Int32) * Int32.ofNat c = Int32.ofNat (40 * c) := by rw [show (40 : Int32) = Int32.ofNat 40 from rfl, u_mul]
      rw [e40, s_214 (S := D) hc MT1 d1 (fun i hi => by rw [m1q 1097 (by decide)]; exact d2 i hi) (by rw [show w_len 1097 = 640 by decide +kernel]; omega) (by decide +kernel)]
      simp only [Option.bind_some, ite_self, w_gd]
      rw [m1q 1096 (by decide), d4]
      by_cases hDT : D = T
      · have : tl = L := by rw [← htl]; unfold tld; rw [if_pos ⟨h0, hDT⟩]
        rw [decide_eq_true hDT, if_neg (by decide), this]
      · have : tl = [] := by rw [← htl]; unfold tld; rw [if_neg (fun h => hDT h.2)]
        rw [decide_eq_false hDT, if_pos (by rfl), this]; rfl
  -- they are copied
  have lp : w_lp (fun (s : Int32 × Hp) => l_216_34 (Int32.ofNat c) s.1 s.2) w_N (0, w_up m1 1076 28 (Int32.ofNat tl.length)) = some (w_fi (w_up m1 1076 28 (Int32.ofNat tl.length)) 1099 0 tl.length (fun i => m1 1095 (40 * c + i))) := by
    rw [show ((0, w_up m1 1076 28 (Int32.ofNat tl.length)) : Int32 × Hp) = (Int32.ofNat 0, w_fi (w_up m1 1076 28 (Int32.ofNat tl.length)) 1099 0 0 (fun i => m1 1095 (40 * c + i))) by rw [w_fi0]; rfl]
    refine u_for (N := w_N) (fun k => (Int32.ofNat k, w_fi (w_up m1 1076 28 (Int32.ofNat tl.length)) 1099 0 k (fun i => m1 1095 (40 * c + i)))) tl.length (by unfold w_N; omega) ?_ ?_
    · intro k hk
      simp (disch := omega) only [l_216_34, w_fi_q, w_up_at, u_lt, hk, if_true, u_40, u_ix, u_cl, w_gd, w_up_q, w_let, u_S]
      have := w_fiS (w_up m1 1076 28 (Int32.ofNat tl.length)) 1099 0 k (fun i => m1 1095 (40 * c + i))
      rw [Nat.zero_add] at this
      rw [this]
    · simp (disch := omega) only [l_216_34, w_fi_q, w_up_at, u_lt, Nat.lt_irrefl, if_false]
  generalize hm2 : w_fi (w_up m1 1076 28 (Int32.ofNat tl.length)) 1099 0 tl.length (fun i => m1 1095 (40 * c + i)) = m2 at lp
  have m2q : ∀ q, q ≠ 1076 → q ≠ 1099 → m2 q = m q := fun q h1 h2 => by
    rw [← hm2, ← m1q q h1]; exact funext fun b => by rw [w_fi_q h2, w_up_q h1]
  have m2b : ∀ b, b ≠ 28 → m2 1076 b = m1 1076 b := fun b hb => by rw [← hm2, w_fi_q (by decide), w_up_b hb]
  have m228 : m2 1076 28 = Int32.ofNat tl.length := by rw [← hm2, w_fi_q (by decide), w_up_at]
  have m299 : ∀ i, i < tl.length → m2 1099 i = tl.getD i 0 := fun i hi => by
    rw [← hm2, w_fi_at (Nat.zero_le _) (by omega), Nat.sub_zero, m1q 1095 (by decide)]; exact htlr i hi
  have MT2 : mt m2 c T := ⟨hT, by rw [m2q 1080 (by decide) (by decide)]; exact MT.2.1, fun j hj => by rw [m2q 1079 (by decide) (by decide)]; exact MT.2.2 j hj⟩
  have e161 := s_161 hc MT2
  generalize hm3 : w_up (w_fi (w_up m2 1076 66 (Int32.ofNat T.length)) 1127 0 T.length (fun i => m2 1079 (40 * c + i))) 1076 67 0 = m3 at e161
  generalize hm4 : w_up (w_up (w_up m3 1076 75 0) 1076 76 (-1)) 1076 74 0 = m4
  generalize hm5 : w_up m4 q4 (9 * c) (-2) = m5
  have m3q : ∀ q, q ≠ 1076 → q ≠ 1099 → q ≠ 1127 → m3 q = m q := fun q h1 h2 h3 => by
    rw [← hm3, ← m2q q h1 h2]; exact funext fun b => by rw [w_up_q h1, w_fi_q h3, w_up_q h1]
  have m3b : ∀ b, b ≠ 66 → b ≠ 67 → m3 1076 b = m2 1076 b := fun b h1 h2 => by rw [← hm3, w_up_b h2, w_fi_q (by decide), w_up_b h1]
  have m5q : ∀ q, q ≠ 1076 → q ≠ 1099 → q ≠ 1127 → q ≠ q4 → m5 q = m q := fun q h1 h2 h3 h4 => by
    rw [← hm5, ← m3q q h1 h2 h3]; exact funext fun b => by rw [w_up_q h4, ← hm4, w_up_q h1, w_up_q h1, w_up_q h1]
  have m5b : ∀ b, b ≠ 74 → b ≠ 75 → b ≠ 76 → m5 1076 b = m3 1076 b := fun b h1 h2 h3 => by
    rw [← hm5, w_up_q (fun h => hqn.2.2.2.2.1 h.symm), ← hm4, w_up_b h1, w_up_b h3, w_up_b h2]
  have m5r : ∀ b, b ≠ 28 → b ≠ 29 → b ≠ 30 → b ≠ 66 → b ≠ 67 → b ≠ 74 → b ≠ 75 → b ≠ 76 → b ≠ 77 → m5 1076 b = m 1076 b := fun b h1 h2 h3 h4 h5 h6 h7 h8 h9 => by
    rw [m5b b h6 h7 h8, m3b b h4 h5, m2b b h1, m1b b h9 h2 h3]
  have m574 : m5 1076 74 = 0 := by rw [← hm5, w_up_q (fun h => hqn.2.2.2.2.1 h.symm), ← hm4, w_up_at]
  have m576 : m5 1076 76 = -1 := by rw [← hm5, w_up_q (fun h => hqn.2.2.2.2.1 h.symm), ← hm4, w_up_b (by decide), w_up_at]
  have m575 : m5 1076 75 = 0 := by rw [← hm5, w_up_q (fun h => hqn.2.2.2.2.1 h.symm), ← hm4, w_up_b (by decide), w_up_b (by decide), w_up_at]
  have m567 : m5 1076 67 = 0 := by rw [m5b 67 (by decide) (by decide) (by decide), ← hm3]; exact w_up_at
  have m529 : m5 1076 29 = how := by rw [m5b 29 (by decide) (by decide) (by decide), m3b 29 (by decide) (by decide), m2b 29 (by decide)]; exact m129
  have m4q : ∀ q, q ≠ 1076 → m4 q = m3 q := fun q h1 => by rw [← hm4]; exact funext fun b => by rw [w_up_q h1, w_up_q h1, w_up_q h1]
  have ld5 : ld T m5 := by
    refine ⟨hT, ?_, fun i hi => ?_⟩
    · rw [m5b 66 (by decide) (by decide) (by decide), ← hm3, w_up_b (by decide), w_fi_q (by decide), w_up_at]
    · rw [← hm5, w_up_q (fun h => hqn.2.2.2.2.2.2.1 h.symm), m4q 1127 (by decide), ← hm3, w_up_q (by decide), w_fi_at (Nat.zero_le _) (by omega), Nat.sub_zero]
      exact MT2.2.2 i hi
  have D5 : dm m5 c p (0, m 1076 31, []) := by
    refine ⟨hc, ?_, ?_, Nat.zero_le _, ?_, by rw [hp2]; exact htl40, by rw [m529]; exact hp1, ?_, ?_, ?_, rfl, fun _ i hi => absurd hi (Nat.not_lt_zero i), fun i hi => ?_⟩
    · rw [m5b 77 (by decide) (by decide) (by decide), m3b 77 (by decide) (by decide), m2b 77 (by decide)]; exact m177
    · rw [m5b 30 (by decide) (by decide) (by decide), m3b 30 (by decide) (by decide), m2b 30 (by decide)]; exact m130
    · rw [m5b 28 (by decide) (by decide) (by decide), m3b 28 (by decide) (by decide), hp2]; exact m228
    · rw [hp2, m529]
      by_cases h0 : how = 0
      · left; rw [← htl]; unfold tld; rw [if_neg (fun h => h.1 h0)]; rfl
      · right; exact h0
    · exact m5r 31 (by decide) (by decide) (by decide) (by decide) (by decide) (by decide) (by decide) (by decide) (by decide)
    · rw [hp3]; exact m5r 32 (by decide) (by decide) (by decide) (by decide) (by decide) (by decide) (by decide) (by decide) (by decide)
    · rw [hp2] at hi ⊢
      rw [← hm5, w_up_q (fun h => hqn.2.2.2.2.2.1 h.symm), m4q 1099 (by decide), ← hm3, w_up_q (by decide), w_fi_q (by decide), w_up_q (by decide)]
      exact m299 i hi
  have FG5 : FG c q4 fe m5 := by
    intro g hg
    have gq : ∀ q, ¬ evgP q4 q → q ≠ 1076 → q ≠ 1099 → q ≠ 1127 → q ≠ q4 → g q = m q := fun q h1 h2 h3 h4 h5 => by rw [hg.1 q h1, m5q q h2 h3 h4 h5]
    have gb : ∀ b, b = 2 ∨ b = 48 → g 1076 b = m 1076 b := fun b hb => by
      rw [hg.2.1 b (by omega) (by omega) (by omega) (by omega) (by omega) (by omega) (by omega) (by omega) (by omega)]
      exact m5r b (by omega) (by omega) (by omega) (by omega) (by omega) (by omega) (by omega) (by omega) (by omega)
    have nq : ∀ q, q = 1083 ∨ q = 1084 ∨ q = 1085 ∨ q = 1112 ∨ q = 1115 ∨ q = 1093 ∨ q = 1123 → g q = m q := fun q hq2 => by
      have h4 : q ≠ q4 := by unfold qres at hq4; omega
      exact gq q (by unfold evgP evfP; omega) (by omega) (by omega) (by omega) h4
    exact hH g (gb 2 (Or.inl rfl)) (gb 48 (Or.inr rfl)) (by rw [hg.2.1 29 (by decide) (by decide) (by decide) (by decide) (by decide) (by decide) (by decide) (by decide) (by decide)]; exact m529) (nq _ (by omega)) (nq _ (by omega)) (nq _ (by omega)) (nq _ (by omega)) (nq _ (by omega)) (nq _ (by omega)) (nq _ (by omega))
  have B5 : BG T lang c q4 p e fe m5 (0, m 1076 31, []) := by
    refine ⟨hc, ⟨ld5, FG5, m574, fun i hi hn => ⟨fun hb => absurd hb (by rw [bt_zero]; decide), fun _ => ?_⟩, m567, m575, by rw [m576]; decide, D5, ?_⟩, ?_⟩
    · rcases hn with hn | hn
      · exact he i hi hn
      · rw [bt_zero] at hn; cases hn
    · rw [he26]
      show m5 q4 (9 * c) = -2
      rw [← hm5]; exact w_up_at
    · rw [m5q 1083 (by decide) (by decide) (by decide) (by unfold qres at hq4; omega)]; exact hs.1
  have la5 : m5 1081 c = lang := by rw [m5q 1081 (by decide) (by decide) (by decide) (by unfold qres at hq4; omega)]; exact hla
  -- the language
  have run : ∃ r, evl T lang p e (0, m 1076 31, []) = some r ∧ ∃ m6, (if m5 1081 c = 1 then p_211 m5 q4 else if m5 1081 c = 2 then p_213 m5 q4 else p_208 m5 q4) = some m6 ∧ AD T lang c q4 p m5 m6 r := by
    rw [la5]
    rcases hlang with rfl | rfl | rfl
    · rw [if_neg (by decide), if_neg (by decide)]
      exact m_l0 hq4 hT hF B5 rfl
    · rw [if_pos rfl]
      exact m_l1 hq4 hT hF B5
    · rw [if_neg (by decide), if_pos rfl]
      exact m_l2 hq4 hT hF B5
  obtain ⟨r, ev, m6, r1, A1, A2, A3, A4⟩ := run
  have mid : q_216_31 m1 (Int32.ofNat c) q3 q4 (Int32.ofNat tl.length) = q_216_93 m6 (Int32.ofNat c) q3 := by
    unfold q_216_31
    simp only [w_let]
    rw [lp]
    simp only [Option.bind_some]
    rw [e161]
    simp only [Option.bind_some]
    rw [hm4, u_9, u_ix (by rw [w_len_qr hq4]; omega) (by rw [w_len_qr hq4]; omega), u_cl (by omega), hm5, u_ix hc (by decide), u_cl (by omega)]
    simp only [w_gd]
    by_cases l1 : m5 1081 c = 1
    · rw [if_pos l1] at r1 ⊢
      rw [r1]; rfl
    · rw [if_neg l1] at r1 ⊢
      by_cases l2 : m5 1081 c = 2
      · rw [if_pos l2] at r1 ⊢
        rw [r1]; rfl
      · rw [if_neg l2] at r1 ⊢
        rw [r1]; rfl
  have k83 : m6 1083 c = (rdA T lang).2.2.2.2.2.1 := by
    rw [A1.1 1083 (by unfold evgP evfP; unfold qres at hq4; omega), m5q 1083 (by decide) (by decide) (by decide) (by unfold qres at hq4; omega)]; exact hs.1
  have k84 : m6 1084 c = (rdA T lang).2.2.2.2.2.2.1 := by
    rw [A1.1 1084 (by unfold evgP evfP; unfold qres at hq4; omega), m5q 1084 (by decide) (by decide) (by decide) (by unfold qres at hq4; omega)]; exact hs.2.1
  have k75 : m6 1076 75 = r.1 := by
    by_cases h0 : r.1 = 0
    · rw [h0]; exact (A3 h0).1
    · exact (A4 h0).1
  obtain ⟨m7, n1, n2, n3, n4, n5, n6⟩ := m_93 (v := r.2.2.1) hq hc k83 k84 k75 (fun h0 => (A3 h0).2.1)
  have all : ∀ q, ¬ mevP q3 q4 q → m7 q = m q := by
    intro q hq2
    unfold mevP at hq2
    have : ¬ evgP q4 q := fun h => hq2 (Or.inr (Or.inr (Or.inr (Or.inl h))))
    rw [n2 q (fun h => hq2 (by omega)), A1.1 q this, m5q q (fun h => hq2 (Or.inl h)) (fun h => hq2 (Or.inr (Or.inl h))) (fun h => hq2 (Or.inr (Or.inr (Or.inl h)))) (fun h => this (Or.inr (Or.inr h)))]
  obtain ⟨y1, y2, y3, y4, y5, y6, y7, y8, y9, y10, y11, y12, y13⟩ := A2
  refine ⟨r, ev, m7, ?_, all, fun b h1 h2 h3 h4 h5 h6 h7 h8 h9 h10 h11 h12 h13 => ?_, n4, ?_, ?_, ⟨y11, y4⟩, fun hp i hi => ?_, fun b hb => ?_, fun b hb => ?_, fun b hb => ?_, n6, fun h0 => ?_, fun h0 => ?_⟩
  · rw [beg, mid]; exact n1
  · rw [n3 b h2, A1.2.1 b h6 h7 h8 h9 h10 h11 h13 h3 h4, m5r b h1 h2 h3 h5 h6 h9 h10 h11 h12]
  · rw [n3 30 (by decide)]; exact y3
  · rw [n3 31 (by decide)]; exact y9
  · rw [n2 1095 (by unfold q34 at hq; omega)]; exact y12 hp i hi
  · rw [n2 1095 (by unfold q34 at hq; omega), A1.2.2.1 b (by rw [m529]; exact hb), m5q 1095 (by decide) (by decide) (by decide) (by unfold qres at hq4; omega)]
  · rw [n5 b hb, A1.1 q3 hqn.2.2.2.2.2.2.2.2.1, m5q q3 hqn.1 hqn.2.1 hqn.2.2.1 hqn.2.2.2.1]
  · rw [n2 q4 (by unfold q34 at hq; omega), A1.2.2.2 b hb, ← hm5, w_up_b (by omega), m4q q4 hqn.2.2.2.2.1, m3q q4 hqn.2.2.2.2.1 hqn.2.2.2.2.2.1 hqn.2.2.2.2.2.2.1]
  · exact mv_fr (A3 h0).2.2 (fun b _ _ => by rw [n2 q4 (by unfold q34 at hq; omega)])
  · rw [n3 75 (by decide), n3 76 (by decide)]; exact A4 h0
end S9n
