/-! ===== queries: the model ===== -/
section S9e
variable {T : List Int32} {c qr : Nat} {p : DP} {e fe : Nat → Option VL} {us : Int32} {m : Hp} {d : DR}
theorem mxf_2 {a b : Int32} : (if b ≤ a then a else b) = mxf a b := by
  unfold mxf
  by_cases h : a < b
  · rw [if_pos h, if_neg (Int32.not_le.mpr h)]
  · rw [if_neg h, if_pos (Int32.not_lt.mp h)]
theorem maxL_snoc {l : List Int32} {y : Int32} : maxL (l ++ [y]) = if l = [] then y else mxf (maxL l) y := by
  cases l with
  | nil => rfl
  | cons x l =>
    rw [if_neg (by simp)]
    show (l ++ [y]).foldl mxf x = mxf (l.foldl mxf x) y
    rw [List.foldl_append]; rfl
theorem sumL_snoc {l : List Int32} {y : Int32} : sumL (l ++ [y]) = sumL l + y := by
  unfold sumL; rw [List.foldl_append]; rfl
theorem cmq_210 {k n x y : Int32} (hk : (y = 60 ∧ k = 15) ∨ (y = 62 ∧ k = 16) ∨ (y = 61 ∧ k = 17)) : cmq k n x = decide (¬ v_210 x y n = 0) := by
  rcases hk with ⟨rfl, rfl⟩ | ⟨rfl, rfl⟩ | ⟨rfl, rfl⟩ <;> rfl
theorem ld_1076 {b : Nat} {x : Int32} (h : ld T m) (hb : b ≠ 66) : ld T (w_up m 1076 b x) := ⟨h.1, by rw [w_up_b (fun hh => hb hh.symm)]; exact h.2.1, fun i hi => by rw [w_up_q (by decide)]; exact h.2.2 i hi⟩
theorem filter_snoc {f : Int32 → Bool} {L : List Int32} {j : Nat} (hj : j < L.length) : (L.take (j + 1)).filter f = (L.take j).filter f ++ (if f (L.getD j 0) = true then [L.getD j 0] else []) := by
  rw [take_snoc hj, List.filter_append]
  congr 1
  by_cases hc : f (L.getD j 0) = true
  · rw [if_pos hc, List.filter_cons_of_pos hc]; rfl
  · rw [if_neg hc, List.filter_cons_of_neg hc]; rfl
/-- the items that are kept -/
theorem l_211 {L : List Int32} {k n y : Int32} {g : Hp} (h8 : L.length ≤ 8) (hk : (y = 60 ∧ k = 15) ∨ (y = 62 ∧ k = 16) ∨ (y = 61 ∧ k = 17)) (hy : g 1127 3 = y) (hi : ∀ j, j < L.length → g 1132 (j + 1) = L.getD j 0) : ∃ g', w_lp (fun (s : Int32 × Int32 × Int32 × Int32 × Hp) => l_211_80 qr n (Int32.ofNat L.length) s.1 s.2.1 s.2.2.1 s.2.2.2.1 s.2.2.2.2) w_N (0, 0, 0, 1, g) = some (sumL (L.filter (cmq k n)), Int32.ofNat (L.filter (cmq k n)).length, maxL (L.filter (cmq k n)), g') ∧ w_fr (fun q => q = 1130) g g' ∧ ∀ i, i < (L.filter (cmq k n)).length → g' 1130 (i + 1) = (L.filter (cmq k n)).getD i 0 := by
  have lp : ok (w_lp (fun (s : Int32 × Int32 × Int32 × Int32 × Hp) => l_211_80 qr n (Int32.ofNat L.length) s.1 s.2.1 s.2.2.1 s.2.2.2.1 s.2.2.2.2) w_N (0, 0, 0, 1, g)) (fun r => r.1 = sumL (L.filter (cmq k n)) ∧ r.2.1 = Int32.ofNat (L.filter (cmq k n)).length ∧ r.2.2.1 = maxL (L.filter (cmq k n)) ∧ w_fr (fun q => q = 1130) g r.2.2.2 ∧ ∀ i, i < (L.filter (cmq k n)).length → r.2.2.2 1130 (i + 1) = (L.filter (cmq k n)).getD i 0) := by
    refine ok_for (fun j s => s.1 = sumL ((L.take j).filter (cmq k n)) ∧ s.2.1 = Int32.ofNat ((L.take j).filter (cmq k n)).length ∧ s.2.2.1 = maxL ((L.take j).filter (cmq k n)) ∧ s.2.2.2.1 = Int32.ofNat (j + 1) ∧ w_fr (fun q => q = 1130) g s.2.2.2.2 ∧ ∀ i, i < ((L.take j).filter (cmq k n)).length → s.2.2.2.2 1130 (i + 1) = ((L.take j).filter (cmq k n)).getD i 0) L.length ⟨rfl, rfl, rfl, rfl, w_fr_refl _ _, fun i hi => by simp at hi⟩ (by unfold w_N; omega) ?_ ?_
    · rintro j ⟨x5, x6, x7, x8, g1⟩ hj ⟨e5, e6, e7, e8, f1, hv⟩
      simp only at e5 e6 e7 e8 f1 hv
      subst e5; subst e6; subst e7; subst e8
      have hle : Int32.ofNat (j + 1) ≤ Int32.ofNat L.length := (u_le (by omega) (by omega)).mpr hj
      have hit : g1 1132 (j + 1) = L.getD j 0 := by rw [f1 1132 (by decide)]; exact hi j hj
      have hsg : g1 1127 3 = y := by rw [f1 1127 (by decide)]; exact hy
      have hlen : ((L.take j).filter (cmq k n)).length ≤ j := by
        have := List.length_filter_le (cmq k n) (L.take j)
        rw [List.length_take] at this; omega
      have hf := filter_snoc (f := cmq k n) hj
      have hcm := cmq_210 (k := k) (n := n) (x := L.getD j 0) hk
      generalize hF : (L.take j).filter (cmq k n) = F at *
      generalize hF' : (L.take (j + 1)).filter (cmq k n) = F' at *
      generalize hz : L.getD j 0 = z at *
      unfold l_211_80
      dsimp only
      rw [if_pos hle, u_ix (by omega) (by decide), u_cl (by omega)]
      simp only [hit, hsg, w_gd]
      by_cases hc : v_210 z y n = 0
      · rw [if_pos hc, u_S]
        rw [hcm, decide_eq_false (fun h => h hc), if_neg (by decide), List.append_nil] at hf
        subst hf
        exact ok_some ⟨rfl, rfl, rfl, rfl, f1, hv⟩
      · rw [if_neg hc]
        rw [hcm, decide_eq_true hc, if_pos rfl] at hf
        simp only [ite_self, Bool.true_and]
        have e1 : Int32.ofNat F.length + 1 = Int32.ofNat (F.length + 1) := u_S _
        rw [e1]
        unfold q_211_117
        rw [u_ix (by omega) (by decide), u_ix (by omega) (by decide), u_cl (by omega), u_cl (by omega), hit, u_S]
        simp only [w_gd, w_let]
        refine ok_some ⟨?_, ?_, ?_, rfl, w_fr_up f1 rfl, fun i hi2 => ?_⟩
        · rw [hf]; exact sumL_snoc.symm
        · rw [hf, List.length_append]; rfl
        · dsimp only
          rw [hf, maxL_snoc]
          by_cases h0 : F = []
          · rw [if_pos h0, h0, if_pos (by rfl)]
          · have hne : ¬ Int32.ofNat (F.length + 1) = 1 := fun hh => by
              have := (u_inj (a := F.length + 1) (b := 1) (by omega) (by decide)).mp hh
              exact h0 (List.length_eq_zero_iff.mp (by omega))
            rw [if_neg h0, if_neg hne, mxf_2]
        · dsimp only at hi2 ⊢
          rw [hf] at hi2 ⊢
          rw [List.length_append] at hi2
          have hi3 : i < F.length + 1 := hi2
          rw [List.getD_eq_getElem?_getD]
          by_cases ci : i = F.length
          · subst ci
            rw [w_up_at, List.getElem?_append_right (Nat.le_refl _), Nat.sub_self]; rfl
          · rw [w_up_b (by omega), hv i (by omega), List.getElem?_append_left (by omega), List.getD_eq_getElem?_getD]
    · rintro ⟨x5, x6, x7, x8, g1⟩ ⟨e5, e6, e7, e8, f1, hv⟩
      simp only at e5 e6 e7 e8 f1 hv
      subst e5; subst e6; subst e7; subst e8
      have hle : ¬ Int32.ofNat (L.length + 1) ≤ Int32.ofNat L.length := fun h => by
        have := (u_le (by omega) (by omega)).mp h
        omega
      unfold l_211_80
      dsimp only
      rw [if_neg hle]
      rw [List.take_of_length_le (Nat.le_refl _)] at hv ⊢
      exact ok_some ⟨rfl, rfl, rfl, f1, hv⟩
  obtain ⟨⟨r1, r2, r3, g'⟩, l1, l2, l3, l4, l5, l6⟩ := lp
  simp only at l2 l3 l4 l5 l6
  subst l2; subst l3; subst l4
  exact ⟨g', l1, l5, l6⟩
theorem m_211 {a b : Nat} {k n x : Int32} {p5 p6 : Nat} (hq : qres qr) (hc : c < 16) (hQ : isQ T a b k n p5 p6 x) (hus : bt us b = true) (H : SB T c qr p e fe us m 0 0 d) : ∃ m', p_211 m qr = some m' ∧ evg c qr m m' ∧ dm m' c p d ∧ (e b = none → m' 1076 75 = 1 ∧ m' 1076 76 = 0) ∧ ∀ v, e b = some v → m' 1076 75 = 0 ∧ mv m' 1131 (9 * a) (some (qrs x ((itl v).filter (cmq k n)))) ∧ mv m' qr (9 * c) (some (qrs x ((itl v).filter (cmq k n)))) := by
  obtain ⟨q1, q2, q3, q4, q5, q6, q7, q8, q9, q10, q11⟩ := hQ
  have hT := H.1.1
  have hp6 : p6 < T.length := cat_eq q10 (by rcases q11 with rfl | rfl | rfl | rfl <;> decide)
  have hp56 : p5 < p6 := by
    rw [q8]
    have e1 : dgs T 6 p5 (-1) = dgs T 5 (p5 + 1) (((if (-1 : Int32) < 0 then 0 else -1) * 10 + cat T p5) - 48) := by
      show (if isD (cat T p5) = true then _ else _) = _
      rw [if_pos q7]
    rw [e1]
    have := (dgs_le (T := T) 5 (p5 + 1) (((if (-1 : Int32) < 0 then 0 else -1) * 10 + cat T p5) - 48)).1
    omega
  have hp5 : 4 ≤ p5 := by rw [q6]; split <;> omega
  have k77 : m 1076 77 = Int32.ofNat c := H.2.2.2.2.2.2.2.1.2.1
  have efe : e b = fe b := (H.2.2.2.1 b q2 (Or.inl hus)).2 (by rw [bt_zero]; decide)
  have ch : ∀ i, i < T.length → m 1127 i = cat T i := fun i hi => m_cat H.1 hi
  have hne : qr ≠ 1130 ∧ qr ≠ 1076 ∧ qr ≠ 1127 ∧ qr ≠ 1131 ∧ qr ≠ 1095 ∧ qr ≠ 1099 ∧ qr ≠ 1132 := by unfold qres at hq; omega
  obtain ⟨g, b1, b2, b3⟩ := H.2.1 m evg_refl b q2
  have k76 : g 1076 = m 1076 := b3 1076 (by decide)
  have Dg : dm g c p d := dm_fr H.2.2.2.2.2.2.2.1 (b3 _ (by decide)) (b3 _ (by decide)) (fun b _ _ _ _ _ => by rw [k76])
  have fg : evg c qr m g := evg_evf hq (evf_f b3)
  unfold p_211
  rw [k77, ch 2 (by omega), q4, b1]
  simp only [Option.bind_some]
  cases hf : fe b with
  | none =>
    rw [if_pos (by rfl)]
    obtain ⟨m2, a1, a2, a3, a4, a5⟩ := m_195 (m := g) (e := 1) (x := 0) (by rw [k76]; exact H.2.2.2.2.2.1) (by rw [k76]; exact H.2.2.2.2.2.2.1) (by decide)
    rw [a1]
    refine ⟨m2, rfl, evg_trans fg (evg_evf hq ⟨w_fr_mono a4 (fun q hq => by unfold evfP; omega), fun b _ _ _ h4 h5 _ _ => a5 b h4 h5, fun b _ => by rw [a4 1095 (by decide)]⟩), ?_, fun _ => ⟨a2, a3⟩, fun v hv => ?_⟩
    · exact dm_fr Dg (a4 _ (by decide)) (a4 _ (by decide)) (fun b _ _ _ h4 h5 => a5 b h4 h5)
    · rw [efe, hf] at hv; cases hv
  | some v =>
    rw [hf] at b2
    rw [if_neg (show ¬ ofB (some v).isSome = 0 from (by decide : ¬ ofB true = 0))]
    simp only [w_let]
    -- the sign -
    generalize hg4 : w_up g 1076 67 4 = g4
    have ld4 : ld T g4 := by
      rw [← hg4]
      exact ld_1076 ⟨H.1.1, by rw [k76]; exact H.1.2.1, fun i hi => by rw [b3 1127 (by decide)]; exact H.1.2.2 i hi⟩ (by decide)
    have g467 : g4 1076 67 = Int32.ofNat 4 := by rw [← hg4]; exact w_up_at
    obtain ⟨s1, s2⟩ := m_150 ld4 g467 (by omega)
    rw [s2, s1]
    simp only [w_gd]
    have e155 : p_155 g4 (if cs0 T 4 = 45 then 1 else 0) = some ((if cat T 4 = 45 then 1 else 0 : Int32), w_up g4 1076 67 (Int32.ofNat p5)) := by
      have hcs := cs_eq (T := T) (p := 4) (x := 45) (by decide) (by decide)
      unfold p_155
      rw [g467]
      by_cases c4 : cat T 4 = 45
      · rw [if_pos c4] at q6
        rw [if_pos (hcs.mpr c4), if_pos c4, if_neg (by decide), q6]
        rfl
      · rw [if_neg c4] at q6
        rw [if_neg (fun h => c4 (hcs.mp h)), if_neg c4, if_pos rfl, q6]
        rfl
    unfold q_211_25
    rw [e155]
    simp only [Option.bind_some]
    -- the number
    have lp := l_204 (T := T) hT 6 p5 0 (w_up g4 1076 67 (Int32.ofNat p5)) w_N (by decide) (by decide) (by omega) (ld_1076 ld4 (by decide)) w_up_at (by rw [← dgs_0 q7, ← q8, q10]; rcases q11 with rfl | rfl | rfl | rfl <;> decide) (by decide)
    rw [← dgs_0 q7, ← q8, w_up_up] at lp
    have lp' : w_lp (fun (s : Int32 × Hp) => l_211_29 s.1 s.2) w_N (0, w_up g4 1076 67 (Int32.ofNat p5)) = some ((dgs T 6 p5 (-1)).1, w_up g4 1076 67 (Int32.ofNat p6)) := lp
    rw [lp']
    simp only [Option.bind_some]
    have en : (if (if cat T 4 = 45 then 1 else 0 : Int32) = 0 then (dgs T 6 p5 (-1)).1 else -(dgs T 6 p5 (-1)).1) = n := by
      rw [q9]
      by_cases c4 : cat T 4 = 45
      · rw [if_pos c4, if_pos c4, if_neg (by decide)]
      · rw [if_neg c4, if_neg c4, if_pos rfl]
    rw [en]
    generalize hg5 : w_up g4 1076 67 (Int32.ofNat p6) = g5
    have g5q : ∀ q, q ≠ 1076 → g5 q = g q := fun q hq => by rw [← hg5, ← hg4]; exact funext fun b => by rw [w_up_q hq, w_up_q hq]
    have g5b : ∀ b, b ≠ 67 → g5 1076 b = m 1076 b := fun b hb => by rw [← hg5, ← hg4, w_up_b hb, w_up_b hb, k76]
    have ld5 : ld T g5 := by rw [← hg5]; exact ld_1076 ld4 (by decide)
    have g567 : g5 1076 67 = Int32.ofNat p6 := by rw [← hg5]; exact w_up_at
    have bv : mv g5 1132 0 (some v) := mv_fr b2 (fun b _ _ => by rw [g5q 1132 (by decide)])
    unfold q_211_58 q_211_71
    have hL : (itl v).length ≤ 8 ∧ (if g5 1132 0 = -1 then 1 else g5 1132 0 : Int32) = Int32.ofNat (itl v).length ∧ ∀ j, j < (itl v).length → g5 1132 (j + 1) = (itl v).getD j 0 := by
      cases v with
      | inl i =>
        refine ⟨(show 1 ≤ 8 by decide), ?_, fun j hj => ?_⟩
        · rw [bv.1, if_pos rfl]; rfl
        · have hj' : j < 1 := hj
          have : j = 0 := by omega
          subst this; exact bv.2
      | inr l =>
        have g8 := bv.1
        refine ⟨g8, ?_, fun j hj => ?_⟩
        · rw [bv.2.1, if_neg (u_m1 (by omega))]; rfl
        · have := bv.2.2 j hj
          rw [Nat.add_comm j 1]
          rw [show 0 + 1 + j = 1 + j by omega] at this
          exact this
    obtain ⟨l8, l9, l10⟩ := hL
    rw [l9]
    obtain ⟨g6, lp2, f6, v6⟩ := l_211 (qr := qr) (n := n) l8 q5 (by rw [g5q 1127 (by decide), b3 1127 (by decide), ch 3 (by omega)]) l10
    rw [lp2]
    simp only [Option.bind_some]
    generalize hF : (itl v).filter (cmq k n) = F at *
    have hF8 : F.length ≤ 8 := by
      rw [← hF]
      exact Nat.le_trans (List.length_filter_le _ _) l8
    have ld6 : ld T g6 := ⟨ld5.1, by rw [f6 1076 (by decide)]; exact ld5.2.1, fun i hi => by rw [f6 1127 (by decide)]; exact ld5.2.2 i hi⟩
    have g667 : g6 1076 67 = Int32.ofNat p6 := by rw [f6 1076 (by decide)]; exact g567
    have sig : ∀ z, v_150 (w_up g6 1130 0 z) = x ∧ g_150 (w_up g6 1130 0 z) = true := by
      intro z
      obtain ⟨t1, t2⟩ := m_150 (T := T) (m := w_up g6 1130 0 z) (p := p6) ⟨ld6.1, by rw [w_up_q (by decide)]; exact ld6.2.1, fun i hi => by rw [w_up_q (by decide)]; exact ld6.2.2 i hi⟩ (by rw [w_up_q (by decide)]; exact g667) (by omega)
      refine ⟨t1.trans ?_, t2⟩
      exact (cs_eq (by rcases q11 with rfl | rfl | rfl | rfl <;> decide) (by rcases q11 with rfl | rfl | rfl | rfl <;> decide)).mpr q10
    obtain ⟨t1, t2⟩ := m_150 ld6 g667 (by omega)
    have t3 : v_150 g6 = x := t1.trans ((cs_eq (by rcases q11 with rfl | rfl | rfl | rfl <;> decide) (by rcases q11 with rfl | rfl | rfl | rfl <;> decide)).mpr q10)
    rw [t2, t3]
    simp only [w_gd]
    unfold q_211_138
    rw [show w_ix 0 400 = true from by decide]
    simp only [w_gd, w_let]
    rw [show (0 : Int32).toNatClampNeg = 0 from rfl, (sig _).1, (sig _).2]
    simp only [ite_self, Bool.and_true, w_gd]
    unfold q_211_164
    rw [show w_ix 1 400 = true from by decide, show (1 : Int32).toNatClampNeg = 1 from rfl]
    simp only [w_gd, w_let]
    -- the value in place 0
    generalize hy0 : (if x = 108 then Int32.ofNat F.length else -1 : Int32) = y0
    generalize hy1 : (if x = 115 then sumL F else (if x = 99 then Int32.ofNat F.length else (if x = 109 then maxL F else w_up g6 1130 0 y0 1130 1 : Int32) : Int32) : Int32) = y1
    generalize hg7 : w_up (w_up g6 1130 0 y0) 1130 1 y1 = g7
    have g7q : ∀ q, q ≠ 1130 → g7 q = g5 q := fun q hq => by rw [← hg7]; exact funext fun b => by rw [w_up_q hq, w_up_q hq, f6 q hq]
    have V7 : mv g7 1130 0 (some (qrs x F)) := by
      rw [← hg7]
      unfold qrs
      rcases q11 with rfl | rfl | rfl | rfl
      · rw [if_pos rfl] at hy1 ⊢
        rw [if_neg (by decide)] at hy0
        subst hy0; subst hy1
        exact ⟨by rw [w_up_b (by decide), w_up_at], w_up_at⟩
      · rw [if_neg (by decide), if_pos rfl] at hy1 ⊢
        rw [if_neg (by decide)] at hy0
        subst hy0; subst hy1
        exact ⟨by rw [w_up_b (by decide), w_up_at], w_up_at⟩
      · rw [if_neg (by decide), if_neg (by decide), if_pos rfl] at hy1 ⊢
        rw [if_neg (by decide)] at hy0
        subst hy0; subst hy1
        exact ⟨by rw [w_up_b (by decide), w_up_at], w_up_at⟩
      · rw [if_neg (by decide), if_neg (by decide), if_neg (by decide)] at hy1 ⊢
        rw [if_pos rfl] at hy0
        subst hy0; subst hy1
        refine ⟨hF8, by rw [w_up_b (by decide), w_up_at], fun j hj => ?_⟩
        rw [w_up_b (show (1 : Nat) ≠ 0 by decide)]
        by_cases j0 : j = 0
        · subst j0
          rw [show 0 + 1 + 0 = 1 from rfl, w_up_at]; exact v6 0 hj
        · rw [w_up_b (by omega), w_up_b (by omega), show 0 + 1 + j = j + 1 by omega]; exact v6 j hj
    have ch7 : g7 1127 0 = Int32.ofNat (97 + a) := by rw [g7q 1127 (by decide), g5q 1127 (by decide), b3 1127 (by decide), ch 0 (by omega)]; exact q3
    have e97 : Int32.ofNat (97 + a) - 97 = Int32.ofNat a := by
      have := u_subL (a := 97 + a) (n := 97) (by omega)
      rw [show 97 + a - 97 = a by omega] at this
      exact this
    rw [ch7, e97, u_9]
    have cp := m_193 (m := g7) (r := 1130) (r2 := 1131) (o := 0) (o2 := 9 * a) (by rw [w_len_1130]; omega) (by rw [w_len_1131]; omega) (by rw [w_len_1130]; omega) (by rw [w_len_1131]; omega) (Or.inl (by decide))
    rw [show p_193 g7 1130 0 1131 (Int32.ofNat (9 * a)) = _ from cp]
    simp only [Option.bind_some]
    generalize hg8 : w_fi g7 1131 (9 * a) 9 (fun k => g7 1130 (0 + k)) = g8
    have g8q : ∀ q, q ≠ 1131 → g8 q = g7 q := fun q hq => by rw [← hg8]; exact funext fun b => w_fi_q hq
    have V8 : mv g8 1131 (9 * a) (some (qrs x F)) := by rw [← hg8]; exact mv_cp V7
    have V8' : mv g8 1130 0 (some (qrs x F)) := mv_fr V7 (fun b _ _ => by rw [g8q 1130 (by decide)])
    have k877 : g8 1076 77 = Int32.ofNat c := by rw [g8q 1076 (by decide), g7q 1076 (by decide), g5b 77 (by decide)]; exact k77
    rw [k877, u_9]
    have cp2 := m_193 (m := g8) (r := 1130) (r2 := qr) (o := 0) (o2 := 9 * c) (by rw [w_len_1130]; omega) (by rw [w_len_qr hq]; omega) (by rw [w_len_1130]; omega) (by rw [w_len_qr hq]; omega) (Or.inl (fun h => hne.1 h.symm))
    rw [show p_193 g8 1130 0 qr (Int32.ofNat (9 * c)) = _ from cp2]
    generalize hg9 : w_fi g8 qr (9 * c) 9 (fun k => g8 1130 (0 + k)) = g9
    have g9q : ∀ q, q ≠ qr → g9 q = g8 q := fun q hq => by rw [← hg9]; exact funext fun b => w_fi_q hq
    have V9 : mv g9 qr (9 * c) (some (qrs x F)) := by rw [← hg9]; exact mv_cp V8'
    have all : ∀ q, q ≠ qr → q ≠ 1131 → q ≠ 1130 → q ≠ 1076 → q ≠ 1132 → g9 q = m q := fun q n1 n2 n3 n4 n5 => by rw [g9q q n1, g8q q n2, g7q q n3, g5q q n4, b3 q n5]
    have all76 : ∀ b, b ≠ 67 → g9 1076 b = m 1076 b := fun b hb => by rw [g9q 1076 (fun h => hne.2.1 h.symm), g8q 1076 (by decide), g7q 1076 (by decide), g5b b hb]
    refine ⟨g9, rfl, ⟨fun q hq2 => ?_, fun b h1 _ _ _ _ _ _ _ _ => all76 b h1, fun b _ => ?_, fun b hb => ?_⟩, ?_, fun h => ?_, fun v' hv' => ?_⟩
    · unfold evgP evfP at hq2
      exact all q (by omega) (by omega) (by omega) (by omega) (by omega)
    · rw [all 1095 (fun h => hne.2.2.2.2.1 h.symm) (by decide) (by decide) (by decide) (by decide)]
    · rw [← hg9, w_fi_b (by omega), g8q qr hne.2.2.2.1, g7q qr hne.1, g5q qr hne.2.1, b3 qr hne.2.2.2.2.2.2]
    · exact dm_fr H.2.2.2.2.2.2.2.1 (all _ (fun h => hne.2.2.2.2.1 h.symm) (by decide) (by decide) (by decide) (by decide)) (all _ (fun h => hne.2.2.2.2.2.1 h.symm) (by decide) (by decide) (by decide) (by decide)) (fun b h1 _ _ _ _ => all76 b h1)
    · rw [efe, hf] at h; cases h
    · have : v' = v := by rw [efe, hf] at hv'; cases hv'; rfl
      subst this
      rw [hF]
      refine ⟨by rw [all76 75 (by decide)]; exact H.2.2.2.2.2.1, mv_fr V8 (fun b _ _ => by rw [g9q 1131 (fun h => hne.2.2.2.1 h.symm)]), V9⟩
end S9e
