/-! ===== the model's statements: one, II ===== -/
section S99
variable {T : List Int32} {c qr : Nat} {p : DP} {e fe : Nat → Option VL} {us kn : Int32} {m m' : Hp} {d : DR}
theorem SB_80 {a : Nat} {x : Int32} (hq : qres qr) (H : SB T c qr p e fe us m a kn d) : SB T c qr p e fe us (w_up m 1076 80 x) a kn d ∧ evg c qr m (w_up m 1076 80 x) := by
  obtain ⟨h1, h2, h3, h4, h5, h6, h7, h8, h9⟩ := H
  have hf : evg c qr m (w_up m 1076 80 x) := evg_76 hq (by omega)
  have hne : qr ≠ 1076 := by unfold qres at hq; omega
  have D : dm (w_up m 1076 80 x) c p d := by
    unfold dm at h8 ⊢
    rw [w_up_b (by decide), w_up_b (by decide), w_up_b (by decide), w_up_b (by decide), w_up_b (by decide), w_up_b (by decide), show w_up m 1076 80 x 1095 = m 1095 from funext fun b => w_up_q (by decide), show w_up m 1076 80 x 1099 = m 1099 from funext fun b => w_up_q (by decide)]
    exact h8
  refine ⟨⟨⟨h1.1, by rw [w_up_b (by decide)]; exact h1.2.1, fun i hi => by rw [w_up_q (by decide)]; exact h1.2.2 i hi⟩, FG_evg h2 hf, by rw [w_up_b (by decide)]; exact h3, fun i hi hn => ⟨fun hb => ⟨((h4 i hi hn).1 hb).1, mv_fr ((h4 i hi hn).1 hb).2 (fun b _ _ => w_up_q (by decide))⟩, (h4 i hi hn).2⟩, by rw [w_up_b (by decide)]; exact h5, by rw [w_up_b (by decide)]; exact h6, by rw [w_up_b (by decide)]; exact h7, D, mv_fr h9 (fun b _ _ => w_up_q hne)⟩, hf⟩
/-- where an expression of a statement was reckoned, and the place went on by one -/
theorem st_rck {s0 : RS} {p1 b : Nat} (hq : qres qr) (hT : T.length ≤ 40) (hp : p1 ≤ T.length) (e1 : s0.1 = p1) (hl : s0.2.1.length ≤ p1) (hb : (rex T s0).1 = true) (e2 : (rex T s0).2.1 = b) (he : ¬ b < T.length ∨ cat T b = 59) (hL : LC T (fun i => bt us i = true ∨ bt kn i = true) p1 b) (H : SB T c qr p e fe us m p1 kn d) (hd1 : d.1 ≤ p1) : ∃ C, (rex T s0).2.2.1 = s0.2.1 ++ C ∧ ∃ r, xq p C (e, [], d) = some r ∧ r.2.2.2.1 ≤ b ∧ ∃ m1, p_207 m = some m1 ∧ evf c m m1 ∧ (r.1 = 0 → ∃ v, r.2 = (e, [v], r.2.2.2) ∧ SB T c qr p e fe us (w_up m1 1076 67 (m1 1076 67 + 1)) (b + 1) kn r.2.2.2 ∧ mv (w_up m1 1076 67 (m1 1076 67 + 1)) 1130 0 (some v) ∧ evg c qr m (w_up m1 1076 67 (m1 1076 67 + 1)) ∧ w_up m1 1076 67 (m1 1076 67 + 1) 1076 80 = m 1076 80) ∧ (¬ r.1 = 0 → EX c p m m1 r.1 r.2.2.2) := by
  subst e1; subst e2
  obtain ⟨C, x1, r, x2, x3, m1, a1, a2, a3, a4⟩ := m_207 (c := c) (p := p) (e := e) (fe := fe) (d := d) hT hp hl hb he hL (EVB_SB hq H) H.2.2.2.2.1 H.2.2.2.2.2.1 H.2.2.2.2.2.2.1 H.2.2.2.2.2.2.2.1 hd1
  refine ⟨C, x1, r, x2, x3, m1, a1, a2, fun h0 => ?_, a4⟩
  obtain ⟨⟨v, ev⟩, E⟩ := a3 h0
  have S := SB_EV hq H a2 E
  have e67 : m1 1076 67 + 1 = Int32.ofNat ((rex T s0).2.1 + 1) := by rw [E.2.1, u_S]
  obtain ⟨S2, F⟩ := SB_67 (b := (rex T s0).2.1 + 1) hq S
  rw [e67]
  have V := E.2.2.2.2.2.2.1
  have ev1 : r.2.2.1 = [v] := by rw [ev]
  dsimp only at V
  rw [ev1] at V
  refine ⟨v, ev, S2, mv_fr V.1 (fun b _ _ => w_up_q (by decide)), evg_trans (evg_evf hq a2) F, ?_⟩
  rw [w_up_b (by decide), a2.2.1 80 (by decide) (by decide) (by decide) (by decide) (by decide) (by decide) (by decide)]
theorem xq_snoc {C : List ST} {k x st : Int32} {P : PM} {r1 : Int32 × PM} (h : xq p C P = some r1) : xq p (C ++ [(k, x, st)]) P = if r1.1 = 0 then xs p k x r1.2 else some r1 := by
  rw [xq_app, h]
  unfold xc
  by_cases e0 : r1.1 = 0
  · simp only [e0, if_true]
    cases hx : xs p k x r1.2 with
    | none => simp only [xq, hx]
    | some r => exact xq_1 hx
  · simp only [e0, if_false]
theorem isL_nat {j : Nat} (hj : j < 26) : isL (Int32.ofNat (97 + j)) = true := by
  have : ∀ l, l < 26 → isL (Int32.ofNat (97 + l)) = true := by decide
  exact this j hj
def r13 (e : Nat → Option VL) (l : Nat) (d : DR) : VL → VL → Int32 × PM
  | .inl j, .inl i => (0, eup e l (some (.inl (i + j))), [], d)
  | v, _ => (2, e, [v], d)
theorem xs_13 {l : Nat} {v w : VL} (hl : l < 26) (hw : e l = some w) : xs p 13 (Int32.ofNat l) (e, [v], d) = some (r13 e l d v w) := by
  have h : xs p 13 (Int32.ofNat l) (e, [v], d) = (match ([v] : List VL), e (Int32.ofNat l).toNatClampNeg with
      | .inl b :: st, some (.inl a) => some ((0 : Int32), eup e (Int32.ofNat l).toNatClampNeg (some (.inl (a + b))), st, d)
      | _ :: _, _ => some (2, e, [v], d)
      | [], _ => none : Option (Int32 × PM)) := rfl
  rw [h, u_cl (by omega)]
  clear h
  generalize e l = q at hw
  subst hw
  cases v <;> cases w <;> rfl
theorem sgn_L {a : Nat} {x : Int32} (h : sgn T a = x) (hx : ¬ x = -1) : isL (cat T a) = true ∧ cat T (a + 1) = x := by
  unfold sgn at h
  by_cases hh : isL (cat T a) = true
  · rw [if_pos hh] at h; exact ⟨hh, h⟩
  · rw [if_neg hh] at h; exact absurd h.symm hx
theorem st_stm {s : RS} (hq : qres qr) (hc : c < 16) (hT : T.length ≤ 40) (hp : s.1 < T.length) (hl : s.2.1.length ≤ s.1) (h : (rst T s).1 = true) (he : ¬ (rst T s).2.1 < T.length ∨ cat T (rst T s).2.1 = 59) (hus : ∀ j, j < 32 → bt (rst T s).2.2.2.2.2.2.2 j = true → bt us j = true) (hdk : ∀ j, j < 32 → bt s.2.2.2.2.1 j = true → bt s.2.2.2.1 j = true) (H : SB T c qr p e fe us m s.1 s.2.2.2.1 d) (hd1 : d.1 ≤ s.1) : ∃ C, (rst T s).2.2.1 = s.2.1 ++ C ∧ ∃ r, xq p C (e, [], d) = some r ∧ r.2.2.2.1 ≤ (rst T s).2.1 ∧ ∃ m', l_208_0 qr m = some (.inl m') ∧ evg c qr m m' ∧ (r.1 = 0 → r.2.2.1 = [] ∧ SB T c qr p r.2.1 fe us m' ((rst T s).2.1 + 1) (rst T s).2.2.2.2.1 r.2.2.2) ∧ (¬ r.1 = 0 → m' 1076 75 = r.1 ∧ m' 1076 76 = Int32.ofNat s.1 ∧ dm m' c p r.2.2.2) := by
  obtain ⟨p1, s1, q1, q2, q3, q4, q5, q6, q7, q8, q9, qA, qB, qC⟩ := rst_US hT (Nat.le_of_lt hp) h
  generalize hkn : s.2.2.2.1 = kn at *
  have hus1 : ∀ j, j < 32 → bt s1.2.2.2.2.2.2 j = true → bt us j = true := by
    intro j hj hb
    apply hus j hj
    by_cases c1 : sgn T s.1 = 61
    · rw [qA c1]; exact hb
    by_cases c2 : sgn T s.1 = 33
    · rw [qB c2]
      by_cases hv : v_126 s.2.2.2.2.1 (cat T s.1 - 97) = 0
      · rw [if_pos hv]
        show bt (s1.2.2.2.2.2.2 ||| _) j = true
        rw [bt_or, hb]; rfl
      · rw [if_neg hv]; exact hb
    · rw [qC c1 c2]; exact hb
  have hLC : LC T (fun i => bt us i = true ∨ bt kn i = true) p1 s1.1 := by
    intro i j h1 h2 h3 h4
    by_cases hk : bt kn j = true
    · exact Or.inr hk
    · left
      apply hus1 j (by omega)
      have hl2 : lbt T p1 s1.1 j = true := lbt_iff.mpr ⟨i, h1, h2, by unfold lb; rw [h4, isL_nat h3]; simp⟩
      have hk' : bt kn j = false := by simpa using hk
      rw [q9 j (by omega), hl2, hk']; simp
  rw [q2] at he ⊢
  -- the beginning
  have S0 := (SB_80 (x := m 1076 67) hq H).1
  have F0 := (SB_80 (x := m 1076 67) hq H).2
  have e80 : w_up m 1076 80 (m 1076 67) 1076 80 = Int32.ofNat s.1 := by rw [w_up_at]; exact H.2.2.2.2.1
  have beg : l_208_0 qr m = q_208_44 (w_up m 1076 80 (m 1076 67)) qr (ofB (decide (sgn T s.1 = 61 ∨ sgn T s.1 = 33))) (cat T s.1) (if ofB (decide (sgn T s.1 = 61 ∨ sgn T s.1 = 33)) = 0 then 0 else (if cat T (s.1 + 1) = 33 then 1 else 0 : Int32) : Int32) (if ofB (decide (sgn T s.1 = 61 ∨ sgn T s.1 = 33)) = 0 then 0 else 2 : Int32) (Int32.ofNat s.1) := by
    have hlt : m 1076 67 < m 1076 66 := by
      rw [H.2.2.2.2.1, H.1.2.1]; exact (u_lt (by omega) (by omega)).mpr hp
    generalize hm0 : w_up m 1076 80 (m 1076 67) = m0 at S0
    obtain ⟨v1, g1⟩ := m_151 S0.1 S0.2.2.2.2.1 (Nat.le_of_lt hp)
    have h67 : m0 1076 67 = Int32.ofNat s.1 := S0.2.2.2.2.1
    have hch : m0 1127 s.1 = cat T s.1 := m_cat S0.1 hp
    unfold l_208_0
    rw [if_pos hlt, if_pos H.2.2.2.2.2.1]
    simp only [w_let]
    rw [hm0, g1, v1, h67, u_S, u_ix (by omega) (by decide), u_cl (by omega), hch]
    simp only [w_gd]
    by_cases hs : sgn T s.1 = 61 ∨ sgn T s.1 = 33
    · have h2 := sgn_lt hs
      have hch2 : m0 1127 (s.1 + 1) = cat T (s.1 + 1) := m_cat S0.1 (by omega)
      rw [decide_eq_true hs, u_cl (by omega), hch2, u_ix (by omega) (by decide)]
      unfold q_208_35
      rw [h67]
      rfl
    · rw [decide_eq_false hs]
      unfold q_208_35
      rw [h67]
      rfl
  rw [beg]
  by_cases c1 : sgn T s.1 = 61
  · -- a definition
    have hs : sgn T s.1 = 61 ∨ sgn T s.1 = 33 := Or.inl c1
    have h2 := sgn_lt hs
    obtain ⟨hL1, hc61⟩ := sgn_L c1 (by decide)
    obtain ⟨l, hl26, ec, el⟩ := L_nat hL1
    rw [if_pos hs] at q1
    have hr : rst T s = rst2 T 61 (cat T s.1 - 97) (ra (ra (rstart s))) := by unfold rst; rw [if_pos c1]
    have hb : (rex T (ra (ra (rstart s)))).1 = true := by
      rw [hr, (rst2_pl (sg := 61) (x := cat T s.1 - 97)).1] at h; exact h
    have e2 : rst2 T 61 (cat T s.1 - 97) (ra (ra (rstart s))) = (true, rknow (rdef (re (rex T (ra (ra (rstart s)))).2 12 (cat T s.1 - 97)) ((rex T (ra (ra (rstart s)))).2.2.2.2.2.1 ||| (1 <<< ((cat T s.1 - 97) &&& 31)))) ((rex T (ra (ra (rstart s)))).2.2.2.2.1 ||| (1 <<< ((cat T s.1 - 97) &&& 31)))) := by
      unfold rst2; rw [if_pos hb]; dsimp only; rw [if_pos rfl]
    have e3 : (rex T (ra (ra (rstart s)))).2.1 = s1.1 := by rw [← q2, hr, e2]; rfl
    obtain ⟨S1, F1⟩ := SB_67 (b := p1) hq S0
    obtain ⟨C1, x1, r1, x2, x3, m1, a1, a2, a3, a4⟩ := st_rck (s0 := ra (ra (rstart s))) (b := s1.1) hq hT (by omega) q1.symm (by show s.2.1.length ≤ p1; omega) hb e3 he hLC S1 (by omega)
    have hre : (rst T s).2.2.1 = s.2.1 ++ (C1 ++ [(12, Int32.ofNat l, Int32.ofNat (rex T (ra (ra (rstart s)))).2.2.2.1)]) := by
      obtain ⟨n, b1, b2, -⟩ := rex_CE hT (s := ra (ra (rstart s))) (by show s.1 + 1 + 1 ≤ _; omega) (by show s.2.1.length ≤ s.1 + 1 + 1; omega) hb
      have hlen := CE_len b1
      have hlen2 : (rex T (ra (ra (rstart s)))).2.2.1.length = s.2.1.length + n := hlen
      have b2' : n + (s.1 + 1 + 1) ≤ s1.1 := by rw [← e3]; exact b2
      rw [hr, e2]
      show (re (rex T (ra (ra (rstart s)))).2 12 (cat T s.1 - 97)).2.1 = _
      rw [re_app (by omega), x1, el, List.append_assoc]
      rfl
    have e44 : q_208_44 (w_up m 1076 80 (m 1076 67)) qr (ofB (decide (sgn T s.1 = 61 ∨ sgn T s.1 = 33))) (cat T s.1) (if ofB (decide (sgn T s.1 = 61 ∨ sgn T s.1 = 33)) = 0 then 0 else (if cat T (s.1 + 1) = 33 then 1 else 0 : Int32) : Int32) (if ofB (decide (sgn T s.1 = 61 ∨ sgn T s.1 = 33)) = 0 then 0 else 2 : Int32) (Int32.ofNat s.1) = q_208_65 (w_up (w_up m 1076 80 (m 1076 67)) 1076 67 (Int32.ofNat p1)) qr 1 (Int32.ofNat (97 + l)) 0 := by
      rw [decide_eq_true hs, hc61, ec]
      unfold q_208_44
      simp only [w_let]
      rw [show (if ofB true = 0 then 0 else (if (61 : Int32) = 33 then 1 else 0 : Int32) : Int32) = 0 by decide, show (if ofB true = 0 then 0 else 2 : Int32) = 2 by decide, if_pos rfl, q1]
      rw [show Int32.ofNat s.1 + 2 = Int32.ofNat (s.1 + 2) from u_addL s.1 2]
      rfl
    rw [e44]
    refine ⟨_, hre, ?_⟩
    have exq := xq_snoc (k := 12) (x := Int32.ofNat l) (st := Int32.ofNat (rex T (ra (ra (rstart s)))).2.2.2.1) x2
    by_cases e0 : r1.1 = 0
    · obtain ⟨v, ev, S2, V2, F2, -⟩ := a3 e0
      have hx : xs p 12 (Int32.ofNat l) r1.2 = some (0, eup e l (some v), [], r1.2.2.2) := by
        rw [ev]
        show some ((0 : Int32), eup e (Int32.ofNat l).toNatClampNeg (some v), ([] : List VL), r1.2.2.2) = _
        rw [u_cl (by omega)]
      rw [if_pos e0, hx] at exq
      obtain ⟨m3, b1, b2, b3⟩ := st_def (x2 := 1) hq hl26 (by decide) S2 V2
      refine ⟨_, exq, x3, m3, ?_, evg_trans F0 (evg_trans F1 (evg_trans F2 b2)), fun _ => ⟨rfl, ?_⟩, fun h => absurd rfl h⟩
      · unfold q_208_65
        rw [a1]
        simp only [Option.bind_some, w_let]
        rw [if_pos S2.2.2.2.2.2.1]
        simp only [if_true]
        exact b1
      · rw [qA c1, el]
        exact b3
    · rw [if_neg e0] at exq
      have X := a4 e0
      refine ⟨r1, exq, x3, _, q65_err a1 (by rw [X.2.1]; exact e0), evg_trans F0 (evg_trans F1 (evg_trans (evg_evf hq a2) (evg_76 hq (Or.inl rfl)))), fun h => absurd h e0, fun _ => ⟨?_, ?_, ?_⟩⟩
      · rw [w_up_b (by decide)]; exact X.2.1
      · rw [w_up_b (by decide), X.2.2.1, w_up_b (by decide)]; exact e80
      · exact dm_fr X.2.2.2 (funext fun b => w_up_q (by decide)) (funext fun b => w_up_q (by decide)) (fun b h1 _ _ _ _ => w_up_b h1)
  by_cases c2 : sgn T s.1 = 33
  · -- a change
    have hs : sgn T s.1 = 61 ∨ sgn T s.1 = 33 := Or.inr c2
    have h2 := sgn_lt hs
    obtain ⟨hL1, hc33⟩ := sgn_L c2 (by decide)
    obtain ⟨l, hl26, ec, el⟩ := L_nat hL1
    rw [if_pos hs] at q1
    have hnm : bt us l = true ∨ bt kn l = true := by
      by_cases hv : v_126 s.2.2.2.2.1 (cat T s.1 - 97) = 0
      · left
        apply hus l (by omega)
        rw [qB c2, if_pos hv]
        show bt (s1.2.2.2.2.2.2 ||| _) l = true
        rw [bt_or, el, bt_one (by omega)]; simp
      · right
        apply hdk l (by omega)
        rw [el] at hv
        by_cases hb : bt s.2.2.2.2.1 l = true
        · exact hb
        · exact absurd ((v126_ne (by omega)).mpr hb) hv
    have hr : rst T s = rst2 T 33 (cat T s.1 - 97) (re (ra (ra (rstart s))) 11 (cat T s.1 - 97)) := by unfold rst; rw [if_neg c1, if_pos c2]
    have hb : (rex T (re (ra (ra (rstart s))) 11 (cat T s.1 - 97))).1 = true := by
      rw [hr, (rst2_pl (sg := 33) (x := cat T s.1 - 97)).1] at h; exact h
    have h11 : (re (ra (ra (rstart s))) 11 (cat T s.1 - 97)).2.1 = s.2.1 ++ [(11, Int32.ofNat l, Int32.ofNat s.1)] := by
      rw [re_app (by show s.2.1.length < 41; omega), el]; rfl
    have h12 : (re (ra (ra (rstart s))) 11 (cat T s.1 - 97)).1 = s.1 + 2 := rfl
    generalize hs0 : re (ra (ra (rstart s))) 11 (cat T s.1 - 97) = s0 at *
    have e2 : (rst2 T 33 (cat T s.1 - 97) s0).2.2.1 = (re (rex T s0).2 13 (cat T s.1 - 97)).2.1 := by
      unfold rst2; rw [if_pos hb]; dsimp only; rw [if_neg (by decide)]
      by_cases hv : v_126 (rex T s0).2.2.2.2.2.1 (cat T s.1 - 97) = 0
      · rw [if_pos hv]; rfl
      · rw [if_neg hv]; rfl
    have e3 : (rex T s0).2.1 = s1.1 := by rw [← q2, hr, (rst2_pl (sg := 33) (x := cat T s.1 - 97)).2]
    have hl0 : s0.2.1.length = s.2.1.length + 1 := by rw [h11, List.length_append]; rfl
    obtain ⟨S1, F1⟩ := SB_67 (b := p1) hq S0
    have hkn2 : (rst T s).2.2.2.2.1 = kn ||| (1 <<< (Int32.ofNat l &&& 31)) := by
      rw [qB c2, el]
      by_cases hv : v_126 s.2.2.2.2.1 (Int32.ofNat l) = 0
      · rw [if_pos hv]
      · rw [if_neg hv]
    generalize hg : w_up (w_up m 1076 80 (m 1076 67)) 1076 67 (Int32.ofNat p1) = g at S1 F1
    have g80 : g 1076 80 = Int32.ofNat s.1 := by rw [← hg, w_up_b (by decide)]; exact e80
    have e44 : q_208_44 (w_up m 1076 80 (m 1076 67)) qr (ofB (decide (sgn T s.1 = 61 ∨ sgn T s.1 = 33))) (cat T s.1) (if ofB (decide (sgn T s.1 = 61 ∨ sgn T s.1 = 33)) = 0 then 0 else (if cat T (s.1 + 1) = 33 then 1 else 0 : Int32) : Int32) (if ofB (decide (sgn T s.1 = 61 ∨ sgn T s.1 = 33)) = 0 then 0 else 2 : Int32) (Int32.ofNat s.1) = if ((g 1076 74) &&& (v_162 (Int32.ofNat (97 + l)))) = 0 then ((p_194 g (g 1076 77) (Int32.ofNat (97 + l))).bind fun vz25 => if vz25.1 = 0 then ((p_195 vz25.2 1 (vz25.2 1076 80)).bind fun vz27 => q_208_65 vz27 qr 1 (Int32.ofNat (97 + l)) 1) else (q_208_65 vz25.2 qr 1 (Int32.ofNat (97 + l)) 1)) else (q_208_65 g qr 1 (Int32.ofNat (97 + l)) 1) := by
      rw [decide_eq_true hs, hc33, ec]
      unfold q_208_44
      simp only [w_let]
      simp only [if_true]
      rw [show (if ofB true = 0 then 0 else 1 : Int32) = 1 by decide, show (if ofB true = 0 then 0 else 2 : Int32) = 2 by decide, if_neg (by decide)]
      rw [show Int32.ofNat s.1 + 2 = Int32.ofNat (s.1 + 2) from u_addL s.1 2, ← q1, hg]
      rfl
    rw [e44]
    have x11 : xs p 11 (Int32.ofNat l) (e, [], d) = some (if e l = none then 1 else 0, e, [], d) := by
      show some ((if e (Int32.ofNat l).toNatClampNeg = none then (1 : Int32) else 0), ((e, [], d) : PM)) = _
      rw [u_cl (by omega)]
    have k77 : g 1076 77 = Int32.ofNat c := S1.2.2.2.2.2.2.2.1.2.1
    have hreC : ∀ C1, (rex T s0).2.2.1 = s0.2.1 ++ C1 → (rst T s).2.2.1 = s.2.1 ++ ((11, Int32.ofNat l, Int32.ofNat s.1) :: (C1 ++ [(13, Int32.ofNat l, Int32.ofNat (rex T s0).2.2.2.1)])) := by
      intro C1 x1
      obtain ⟨n, b1, b2, -⟩ := rex_CE hT (s := s0) (by omega) (by omega) hb
      have hlen := CE_len b1
      rw [e3] at b2
      rw [hr, e2, re_app (by omega), x1, h11, el, List.append_assoc, List.append_assoc]
      rfl
    -- with a value: the rest
    have rest : ∀ g', SB T c qr p e fe us g' p1 kn d → evg c qr m g' → g' 1076 80 = Int32.ofNat s.1 → ∀ w, e l = some w → ∃ C, (rst T s).2.2.1 = s.2.1 ++ C ∧ ∃ r, xq p C (e, [], d) = some r ∧ r.2.2.2.1 ≤ s1.1 ∧ ∃ m', q_208_65 g' qr 1 (Int32.ofNat (97 + l)) 1 = some (.inl m') ∧ evg c qr m m' ∧ (r.1 = 0 → r.2.2.1 = [] ∧ SB T c qr p r.2.1 fe us m' (s1.1 + 1) (rst T s).2.2.2.2.1 r.2.2.2) ∧ (¬ r.1 = 0 → m' 1076 75 = r.1 ∧ m' 1076 76 = Int32.ofNat s.1 ∧ dm m' c p r.2.2.2) := by
      intro g' S' F' g80' w hw
      obtain ⟨C1, x1, r1, x2, x3, m1, a1, a2, a3, a4⟩ := st_rck (s0 := s0) (b := s1.1) hq hT (by omega) (by omega) (by omega) hb e3 he hLC S' (by omega)
      refine ⟨_, hreC C1 x1, ?_⟩
      rw [hw] at x11
      have ex : xq p ((11, Int32.ofNat l, Int32.ofNat s.1) :: (C1 ++ [(13, Int32.ofNat l, Int32.ofNat (rex T s0).2.2.2.1)])) (e, [], d) = xq p (C1 ++ [(13, Int32.ofNat l, Int32.ofNat (rex T s0).2.2.2.1)]) (e, [], d) := by
        rw [xq_2 x11]; rfl
      rw [ex]
      have exq := xq_snoc (k := 13) (x := Int32.ofNat l) (st := Int32.ofNat (rex T s0).2.2.2.1) x2
      by_cases e0 : r1.1 = 0
      · obtain ⟨v, ev, S2, V2, F2, E2⟩ := a3 e0
        have hx13 : xs p 13 (Int32.ofNat l) r1.2 = some (r13 e l r1.2.2.2 v w) := by
          rw [← xs_13 (p := p) (v := v) (d := r1.2.2.2) hl26 hw]
          exact congrArg _ ev
        rw [if_pos e0, hx13] at exq
        obtain ⟨m3, b1, b2, b3, b4⟩ := m_209 hq hl26 S2 hnm hw V2
        have e65 : q_208_65 g' qr 1 (Int32.ofNat (97 + l)) 1 = q_208_81 m3 qr 1 (Int32.ofNat (97 + l)) := by
          unfold q_208_65
          rw [a1]
          simp only [Option.bind_some, w_let]
          rw [if_pos S2.2.2.2.2.2.1, if_neg (by decide), b1]
          rfl
        rw [e65]
        by_cases hnum : ∃ i j, w = .inl i ∧ v = .inl j
        · obtain ⟨i, j, rfl, rfl⟩ := hnum
          obtain ⟨S3, V3⟩ := b3 i j rfl rfl
          obtain ⟨m4, d1, d2, d3⟩ := st_def (x2 := 1) hq hl26 (by decide) S3 V3
          refine ⟨_, exq, x3, m4, d1, evg_trans F' (evg_trans F2 (evg_trans b2 d2)), fun _ => ⟨rfl, ?_⟩, fun h => absurd rfl h⟩
          rw [hkn2]
          exact d3
        · obtain ⟨d1, d2, d3⟩ := b4 hnum
          have ex2 : xq p (C1 ++ [(13, Int32.ofNat l, Int32.ofNat (rex T s0).2.2.2.1)]) (e, [], d) = some (2, e, [v], r1.2.2.2) := by
            rw [exq]
            cases v with
            | inr _ => rfl
            | inl j =>
              cases w with
              | inr _ => rfl
              | inl i => exact absurd ⟨i, j, rfl, rfl⟩ hnum
          refine ⟨_, ex2, x3, m3, ?_, evg_trans F' (evg_trans F2 b2), fun h => absurd h (show ¬ (2 : Int32) = 0 by decide), fun _ => ⟨d1, by rw [d2, E2]; exact g80', d3⟩⟩
          unfold q_208_81 q_208_106
          rw [if_neg (by rw [d1]; decide), if_neg (by rw [d1]; decide)]
      · rw [if_neg e0] at exq
        have X := a4 e0
        refine ⟨r1, exq, x3, _, q65_err a1 (by rw [X.2.1]; exact e0), evg_trans F' (evg_trans (evg_evf hq a2) (evg_76 hq (Or.inl rfl))), fun h => absurd h e0, fun _ => ⟨?_, ?_, ?_⟩⟩
        · rw [w_up_b (by decide)]; exact X.2.1
        · rw [w_up_b (by decide), X.2.2.1]; exact g80'
        · exact dm_fr X.2.2.2 (funext fun b => w_up_q (by decide)) (funext fun b => w_up_q (by decide)) (fun b h1 _ _ _ _ => w_up_b h1)
    by_cases hbk : bt kn l = true
    · obtain ⟨v, hv⟩ := ((S1.2.2.2.1 l hl26 hnm).1 hbk).1
      rw [s_162 hl26, if_neg (fun h => (u_bit (by omega)).mp h (by rw [S1.2.2.1]; exact hbk))]
      exact rest g S1 (evg_trans F0 F1) g80 v hv
    · have efe := (S1.2.2.2.1 l hl26 hnm).2 hbk
      obtain ⟨g1, b1, b2, b3⟩ := S1.2.1 g evg_refl l hl26
      rw [s_162 hl26, if_pos ((u_bit (by omega)).mpr (by rw [S1.2.2.1]; exact hbk)), k77, b1]
      simp only [Option.bind_some]
      obtain ⟨S2, F2⟩ := SB_fr hq S1 (w_fr_mono b3 (fun q hq => Or.inr hq))
      cases hf : fe l with
      | some v =>
        rw [if_neg (show ¬ ofB (some v).isSome = 0 from (by decide : ¬ ofB true = 0))]
        exact rest g1 S2 (evg_trans F0 (evg_trans F1 F2)) (by rw [b3 1076 (by decide)]; exact g80) v (by rw [efe]; exact hf)
      | none =>
        rw [if_pos (by rfl)]
        have hel : e l = none := by rw [efe]; exact hf
        have h76 := S2.2.2.2.2.2.2.1
        have h75 := S2.2.2.2.2.2.1
        obtain ⟨g2, d1, d2, d3, d4, d5⟩ := m_195 (m := g1) (e := 1) (x := g1 1076 80) h75 h76 (by decide)
        rw [d1]
        simp only [Option.bind_some]
        have n75 : ¬ g2 1076 75 = 0 := by rw [d2]; decide
        have a1 := m_207e n75
        generalize hg3 : w_up (w_up g2 1076 70 0) 1076 72 0 = g3 at a1
        have g3q : ∀ q, q ≠ 1076 → g3 q = g2 q := fun q hq => by subst hg3; exact funext fun b => by rw [w_up_q hq, w_up_q hq]
        have g3b : ∀ b, b ≠ 70 → b ≠ 72 → g3 1076 b = g2 1076 b := fun b n1 n2 => by subst hg3; rw [w_up_b n2, w_up_b n1]
        have f3 : evf c g1 g3 := ⟨fun q hq => by
            unfold evfP at hq
            rw [g3q q (by omega), d4 q (by omega)], fun b _ h2 h3 h4 h5 _ _ => by rw [g3b b h2 h3, d5 b h4 h5], fun b _ => by rw [g3q 1095 (by decide), d4 1095 (by decide)]⟩
        obtain ⟨C1, x1, -⟩ := st_rck (s0 := s0) (b := s1.1) hq hT (by omega) (by omega) (by omega) hb e3 he hLC S1 (by omega)
        refine ⟨_, hreC C1 x1, (1, e, [], d), ?_, by show d.1 ≤ s1.1; omega, _, q65_err a1 (by rw [g3b 75 (by decide) (by decide)]; exact n75), evg_trans F0 (evg_trans F1 (evg_trans F2 (evg_trans (evg_evf hq f3) (evg_76 hq (Or.inl rfl))))), fun h => absurd h (show ¬ (1 : Int32) = 0 by decide), fun _ => ⟨?_, ?_, ?_⟩⟩
        · rw [hel] at x11
          rw [xq_2 x11]
          rfl
        · rw [w_up_b (by decide), g3b 75 (by decide) (by decide)]; exact d2
        · rw [w_up_b (by decide), g3b 76 (by decide) (by decide), d3, b3 1076 (by decide)]; exact g80
        · refine dm_fr S2.2.2.2.2.2.2.2.1 (funext fun b => ?_) (funext fun b => ?_) (fun b h1 h2 h3 h4 h5 => ?_)
          · rw [w_up_q (by decide), g3q 1095 (by decide), d4 1095 (by decide)]
          · rw [w_up_q (by decide), g3q 1099 (by decide), d4 1099 (by decide)]
          · rw [w_up_b h1, g3b b h2 h3, d5 b h4 h5]
  · -- an expression
    have hs : ¬ (sgn T s.1 = 61 ∨ sgn T s.1 = 33) := fun hh => hh.elim c1 c2
    rw [if_neg hs] at q1
    have hr : rst T s = ((rex T (rstart s)).1, re (rex T (rstart s)).2 14 0) := by unfold rst; rw [if_neg c1, if_neg c2]
    have hb : (rex T (rstart s)).1 = true := by rw [hr] at h; exact h
    have e3 : (rex T (rstart s)).2.1 = s1.1 := by rw [← q2, hr]; rfl
    obtain ⟨S1, F1⟩ := SB_67 (b := p1) hq S0
    obtain ⟨C1, x1, r1, x2, x3, m1, a1, a2, a3, a4⟩ := st_rck (s0 := rstart s) (b := s1.1) hq hT (by omega) q1.symm (by show s.2.1.length ≤ p1; omega) hb e3 he hLC S1 (by omega)
    have hre : (rst T s).2.2.1 = s.2.1 ++ (C1 ++ [(14, 0, Int32.ofNat (rex T (rstart s)).2.2.2.1)]) := by
      obtain ⟨n, b1, b2, -⟩ := rex_CE hT (s := rstart s) (Nat.le_of_lt hp) hl hb
      have hlen := CE_len b1
      have hlen2 : (rex T (rstart s)).2.2.1.length = s.2.1.length + n := hlen
      have b2' : n + s.1 ≤ s1.1 := by rw [← e3]; exact b2
      rw [hr]
      show (re (rex T (rstart s)).2 14 0).2.1 = _
      rw [re_app (by omega), x1, List.append_assoc]
      rfl
    have e44 : q_208_44 (w_up m 1076 80 (m 1076 67)) qr (ofB (decide (sgn T s.1 = 61 ∨ sgn T s.1 = 33))) (cat T s.1) (if ofB (decide (sgn T s.1 = 61 ∨ sgn T s.1 = 33)) = 0 then 0 else (if cat T (s.1 + 1) = 33 then 1 else 0 : Int32) : Int32) (if ofB (decide (sgn T s.1 = 61 ∨ sgn T s.1 = 33)) = 0 then 0 else 2 : Int32) (Int32.ofNat s.1) = q_208_65 (w_up (w_up m 1076 80 (m 1076 67)) 1076 67 (Int32.ofNat p1)) qr 0 (cat T s.1) 0 := by
      rw [decide_eq_false hs]
      unfold q_208_44
      simp only [w_let]
      rw [show (if ofB false = 0 then 0 else (if cat T (s.1 + 1) = 33 then 1 else 0 : Int32) : Int32) = 0 by rw [if_pos (by rfl)], show (if ofB false = 0 then 0 else 2 : Int32) = 0 by decide, if_pos rfl, q1]
      rw [show Int32.ofNat s.1 + 0 = Int32.ofNat s.1 from u_addL s.1 0]
      rfl
    rw [e44]
    refine ⟨_, hre, ?_⟩
    have exq := xq_snoc (k := 14) (x := 0) (st := Int32.ofNat (rex T (rstart s)).2.2.2.1) x2
    by_cases e0 : r1.1 = 0
    · obtain ⟨v, ev, S2, V2, F2, -⟩ := a3 e0
      have hx : xs p 14 0 r1.2 = some (0, eup e 26 (some v), [], r1.2.2.2) := by
        rw [ev]; rfl
      rw [if_pos e0, hx] at exq
      obtain ⟨m3, b1, b2, b3⟩ := st_res (x3 := cat T s.1) hq hc S2 V2
      refine ⟨_, exq, x3, m3, ?_, evg_trans F0 (evg_trans F1 (evg_trans F2 b2)), fun _ => ⟨rfl, ?_⟩, fun h => absurd rfl h⟩
      · unfold q_208_65
        rw [a1]
        simp only [Option.bind_some, w_let]
        rw [if_pos S2.2.2.2.2.2.1]
        simp only [if_true]
        exact b1
      · rw [qC c1 c2]
        exact b3
    · rw [if_neg e0] at exq
      have X := a4 e0
      refine ⟨r1, exq, x3, _, q65_err a1 (by rw [X.2.1]; exact e0), evg_trans F0 (evg_trans F1 (evg_trans (evg_evf hq a2) (evg_76 hq (Or.inl rfl)))), fun h => absurd h e0, fun _ => ⟨?_, ?_, ?_⟩⟩
      · rw [w_up_b (by decide)]; exact X.2.1
      · rw [w_up_b (by decide), X.2.2.1, w_up_b (by decide)]; exact e80
      · exact dm_fr X.2.2.2 (funext fun b => w_up_q (by decide)) (funext fun b => w_up_q (by decide)) (fun b h1 _ _ _ _ => w_up_b h1)
end S99
