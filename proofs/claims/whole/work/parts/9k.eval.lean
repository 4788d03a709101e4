/-! ===== the class's run: the count of its answers ===== -/
def dcx (h : Hp) (R : Nat) (p : DP) (d : DR) : Prop := dc h R p d ∧ (p.1 = false → h R 2 = Int32.ofNat d.1)
section S9k
variable {h h' : Hp} {P : PM} {p : DP} {R : Nat}
theorem dcx_fr {d : DR} (H : dcx h R p d) (e1 : h' 40 = h 40) (e2 : h' R = h R) (e3 : h' (R + 3) = h (R + 3)) : dcx h' R p d := ⟨dc_fr H.1 e1 e2 e3, fun hp => by rw [e2]; exact H.2 hp⟩
theorem x_18s {k d : Int32} (hk : okS k d) (hn : ¬ (k = 2 ∨ k = 3)) (H : pm h P) {r : Int32 × PM} (hx : xs p k d P = some r) : ∃ h', p_18 h k d = some (r.1, h') ∧ pm h' r.2 ∧ r.2.2.2 = P.2.2 ∧ xfr h h' := by
  have fin : ∀ h', ¬ (k = 2 ∨ k = 3) → p_18 h k d = some (r.1, h') → pm h' r.2 → xfr h h' → ∃ h', p_18 h k d = some (r.1, h') ∧ pm h' r.2 ∧ r.2.2.2 = P.2.2 ∧ xfr h h' := by
    intro h' hn a b f
    exact ⟨h', a, b, xs_dr hn hx, f⟩
  rcases hk with rfl | ⟨h1, j, hj, rfl⟩ | h1 | h1 | ⟨rfl, j, hj, rfl⟩ | rfl | rfl | ⟨rfl, j, hj, rfl⟩ | rfl
  · have hx2 : (if P.2.1.length < 27 then some ((0 : Int32), P.1, .inl d :: P.2.1, P.2.2) else none : Option (Int32 × PM)) = some r := hx
    by_cases c : P.2.1.length < 27
    · rw [if_pos c] at hx2
      cases hx2
      obtain ⟨h1, a1, a2, a3⟩ := x_19 (n := d) H c (dr := P.2.2)
      refine fin h1 (by decide) ?_ a2 a3
      unfold p_18; rw [if_pos rfl, a1]; rfl
    · rw [if_neg c] at hx2; cases hx2
  · rcases h1 with rfl | rfl | rfl | rfl
    · obtain ⟨h1, a1, a2, a3⟩ := x_20 hj H hx
      refine fin h1 (by decide) ?_ a2 a3
      show (p_20 h (Int32.ofNat j)).bind _ = _
      rw [a1]; rfl
    · obtain ⟨a1, a2, a3⟩ := x_11 hj H hx
      refine fin h (by decide) ?_ (by rw [a3]; exact H) xfr_refl
      show w_gd (g_63 29 (Int32.ofNat j)) _ = _
      rw [a1]
      simp only [w_gd]
      rw [a2]
    · have hx2 : (match P.2.1 with
        | v :: st => some ((0 : Int32), eup P.1 (Int32.ofNat j).toNatClampNeg (some v), st, P.2.2)
        | [] => none : Option (Int32 × PM)) = some r := hx
      rw [u_cl (by omega)] at hx2
      cases es : P.2.1 with
      | nil => rw [es] at hx2; cases hx2
      | cons v st =>
        rw [es] at hx2
        cases hx2
        obtain ⟨h1, a1, a2, a3⟩ := x_21 (show j < 27 by omega) H es
        refine fin h1 (by decide) ?_ a2 a3
        show (p_21 h (Int32.ofNat j)).bind _ = _
        rw [a1]; rfl
    · obtain ⟨h1, a1, a2, a3⟩ := x_23 hj H hx
      refine fin h1 (by decide) ?_ a2 a3
      show (p_23 h (Int32.ofNat j)).bind _ = _
      rw [a1]; rfl
  · exact absurd h1 hn
  · obtain ⟨h1', a1, a2, a3⟩ := x_22 h1 H hx
    refine fin h1' (by rcases h1 with rfl | rfl | rfl <;> decide) ?_ a2 a3
    rcases h1 with rfl | rfl | rfl
    · show (p_22 h 4).bind _ = _
      rw [a1]; rfl
    · show (p_22 h 5).bind _ = _
      rw [a1]; rfl
    · show (p_22 h 6).bind _ = _
      rw [a1]; rfl
  · obtain ⟨h1, a1, a2, a3⟩ := x_24 hj H hx
    refine fin h1 (by decide) ?_ a2 a3
    show (p_24 h (Int32.ofNat j)).bind _ = _
    rw [a1]; rfl
  · obtain ⟨h1, a1, a2, a3⟩ := x_25 H hx
    refine fin h1 (by decide) ?_ a2 a3
    show (p_25 h).bind _ = _
    rw [a1]; rfl
  · obtain ⟨a1, a2, a3⟩ := x_9 H hx
    refine fin h (by decide) ?_ (by rw [a3]; exact H) xfr_refl
    show w_gd (g_64 32 (h 28 2 - 1)) _ = _
    rw [a1]
    simp only [w_gd]
    rw [a2]
  · obtain ⟨h1, a1, a2, a3⟩ := x_26 hj H hx
    refine fin h1 (by decide) ?_ a2 a3
    show (p_26 h (Int32.ofNat j)).bind _ = _
    rw [a1]; rfl
  · have hx2 : (match P.2.1 with
      | v :: st => some ((0 : Int32), eup P.1 26 (some v), st, P.2.2)
      | [] => none : Option (Int32 × PM)) = some r := hx
    cases es : P.2.1 with
    | nil => rw [es] at hx2; cases hx2
    | cons v st =>
      rw [es] at hx2
      cases hx2
      obtain ⟨h1, a1, a2, a3⟩ := x_21 (show 26 < 27 by omega) H es
      refine fin h1 (by decide) ?_ a2 a3
      have a1' : p_21 h 26 = some (0, h1) := a1
      show (p_21 h 26).bind _ = _
      rw [a1']; rfl
theorem z_18 {k d : Int32} (hk : okQ k d) (H : pm h P) (D : dcx h R p P.2.2) {r : Int32 × PM} (hx : qs p k d P = some r) : ∃ h', p_18 h k d = some (r.1, h') ∧ pm h' r.2 ∧ dcx h' R p r.2.2.2 ∧ rfx R h h' := by
  have hR := D.1.1
  have fin : ∀ h', p_18 h k d = some (r.1, h') → pm h' r.2 → r.2.2.2 = P.2.2 → xfr h h' → ∃ h', p_18 h k d = some (r.1, h') ∧ pm h' r.2 ∧ dcx h' R p r.2.2.2 ∧ rfx R h h' := by
    intro h' a b e f
    refine ⟨h', a, b, ⟨by rw [e]; exact dc_x D.1 f, fun hp => ?_⟩, rfx_x hR f⟩
    rw [e, f.1 R (by unfold xP; omega)]
    exact D.2 hp
  by_cases hn : k = 2 ∨ k = 3
  · have hS : okS k d := Or.inr (Or.inr (Or.inl hn))
    rw [qs_xs hS] at hx
    obtain ⟨h1, a1, a2, a3, a4⟩ := x_18 hS H D.1 hx
    refine ⟨h1, a1, a2, ⟨a3, fun hp => ?_⟩, a4⟩
    have hx2 : (if P.2.1.length < 27 ∧ P.2.2.1 < 40 then some ((0 : Int32), P.1, (.inl (drw p (k - 2) P.2.2).1 : VL) :: P.2.1, (drw p (k - 2) P.2.2).2) else none : Option (Int32 × PM)) = some r := by
      rw [← hx]; rcases hn with rfl | rfl <;> rfl
    have hd : r.2.2.2.1 = P.2.2.1 + 1 := by
      by_cases c : P.2.1.length < 27 ∧ P.2.2.1 < 40
      · rw [if_pos c] at hx2; cases hx2; rfl
      · rw [if_neg c] at hx2; cases hx2
    have := a3.2.2.2.2.2.2.2.2.2.2.2.2.1 hp
    exact this.2 (by omega)
  · rcases hk with hk | hk | hk
    · rw [qs_xs hk] at hx
      obtain ⟨h1, a1, a2, a3, a4⟩ := x_18s hk hn H hx
      exact fin h1 a1 a2 a3 a4
    · unfold qs at hx
      rw [if_pos hk] at hx
      cases es : P.2.1 with
      | nil => rw [es] at hx; cases hx
      | cons v st =>
        rw [es] at hx
        have hr : r = (0, P.1, .inr ((itl v).filter (cmq k d)) :: st, P.2.2) := by cases hx; rfl
        subst hr
        obtain ⟨h1, a1, a2, a3⟩ := x_27 (k := k) (d := d) H es
        refine fin h1 ?_ a2 rfl a3
        rcases hk with rfl | rfl | rfl
        · show (p_27 h 15 d).bind _ = _
          rw [a1]; rfl
        · show (p_27 h 16 d).bind _ = _
          rw [a1]; rfl
        · show (p_27 h 17 d).bind _ = _
          rw [a1]; rfl
    · unfold qs at hx
      rw [if_neg (by rcases hk with rfl | rfl <;> decide), if_pos hk] at hx
      cases es : P.2.1 with
      | nil => rw [es] at hx; cases hx
      | cons v st =>
        rw [es] at hx
        cases v with
        | inl n => cases hx
        | inr l =>
          have hr : r = (0, P.1, .inl (if k = 18 then sumL l else maxL l) :: st, P.2.2) := by cases hx; rfl
          subst hr
          obtain ⟨h1, a1, a2, a3⟩ := x_29 hk H es
          refine fin h1 ?_ a2 rfl a3
          rcases hk with rfl | rfl
          · show (p_29 h 18).bind _ = _
            rw [a1]; rfl
          · show (p_29 h 19).bind _ = _
            rw [a1]; rfl
theorem run_16z {q1 : Nat} {s : RS} {lang : Int32} (hq : apt R q1) (hok : ∀ i, i < s.2.1.length → okQ (s.2.1.getD i (0, 0, 0)).1 (s.2.1.getD i (0, 0, 0)).2.1) : ∀ (k i : Nat) (h : Hp) (P : PM) (N : Nat) (r : Int32 × Int32 × PM), i + k = s.2.1.length → cd h q1 s lang → pm h P → dcx h R p P.2.2 → yr p (s.2.1.drop i) P = some r → k < N → ∃ h' z, w_lp (fun (t : Int32 × Hp) => l_16_23 q1 t.1 t.2) N (Int32.ofNat i, h) = some z ∧ ((r.1 = 0 ∧ r.2.1 = 0 ∧ z = .inr (0, h')) ∨ (¬ r.1 = 0 ∧ ∃ j, j < s.2.1.length ∧ r.2.1 = (s.2.1.getD j (0, 0, 0)).2.2 ∧ z = .inl (Int32.ofNat j, r.1, h'))) ∧ pm h' r.2.2 ∧ dcx h' R p r.2.2.2.2 ∧ rfx R h h' := by
  intro k
  induction k with
  | zero =>
    intro i h P N r hk H HP HD hr hN
    have e : i = s.2.1.length := by omega
    subst e
    rw [List.drop_length] at hr
    cases hr
    have h41 := H.2.1
    refine ⟨h, .inr (0, h), u_once hN ?_, Or.inl ⟨rfl, rfl, rfl⟩, HP, HD, rfx_refl⟩
    show l_16_23 q1 _ h = _
    unfold l_16_23
    rw [H.1, if_neg]
    exact fun e => by have := (u_lt (by omega) (by omega)).mp e; omega
  | succ k ih =>
    intro i h P N r hk H HP HD hr hN
    obtain ⟨N, rfl⟩ : ∃ m, N = m + 1 := ⟨N - 1, by omega⟩
    have hi : i < s.2.1.length := by omega
    have h41 := H.2.1
    have hd : s.2.1.drop i = s.2.1.getD i (0, 0, 0) :: s.2.1.drop (i + 1) := by
      rw [List.drop_eq_getElem_cons hi, List.getD_eq_getElem?_getD, List.getElem?_eq_getElem hi]; rfl
    rw [hd] at hr
    have ho := hok i hi
    obtain ⟨t1, t2, t3⟩ := H.2.2.1 i hi
    generalize ha : s.2.1.getD i (0, 0, 0) = a at *
    simp only [yr] at hr
    cases hx : qs p a.1 a.2.1 P with
    | none => rw [hx] at hr; cases hr
    | some r1 =>
      rw [hx] at hr
      obtain ⟨h1, a1, a2, a3, a4⟩ := z_18 ho HP HD hx
      have hlt : Int32.ofNat i < Int32.ofNat s.2.1.length := (u_lt (by omega) (by omega)).mpr hi
      have hst : l_16_23 q1 (Int32.ofNat i) h = if r1.1 = 0 then some (.inl (Int32.ofNat (i + 1), h1)) else some (.inr (.inl (Int32.ofNat i, r1.1, h1))) := by
        unfold l_16_23
        rw [H.1, if_pos hlt]
        simp (disch := omega) only [u_ix, u_cl, w_gd, t1, t2, a1, Option.bind_some, u_S]
      have hz : ∀ z, z = q1 ∨ z = q1 + 1 ∨ z = q1 + 2 ∨ z = q1 + 3 → h1 z = h z := by
        intro z hz
        refine a4.1 z ?_
        obtain ⟨b1, b2⟩ := hq
        unfold xP
        omega
      by_cases e0 : r1.1 = 0
      · simp only [e0, if_true] at hr hst
        have H1 : cd h1 q1 s lang := cd_fr H (hz _ (Or.inl rfl)) (hz _ (Or.inr (Or.inl rfl))) (hz _ (Or.inr (Or.inr (Or.inl rfl)))) (hz _ (Or.inr (Or.inr (Or.inr rfl))))
        obtain ⟨h2, z, b1, b2, b3, b4, b5⟩ := ih (i + 1) h1 r1.2 N r (by omega) H1 a2 a3 hr (by omega)
        refine ⟨h2, z, ?_, b2, b3, b4, rfx_trans a4 b5⟩
        simp only [w_lp, hst]
        exact b1
      · simp only [e0, if_false] at hr hst
        cases hr
        refine ⟨h1, _, u_once (by omega) hst, Or.inr ⟨e0, i, hi, ?_, rfl⟩, a2, a3, a4⟩
        show a.2.2 = (s.2.1.getD i (0, 0, 0)).2.2
        rw [ha]
/-- the class's run of statements -/
theorem c_16z {q1 q2 : Nat} {s : RS} {lang : Int32} {e : Nat → Option VL} {dr : DR} {r : Int32 × Int32 × PM} (hq : apt R q1) (hq2 : 40 < q2) (hok : ∀ i, i < s.2.1.length → okQ (s.2.1.getD i (0, 0, 0)).1 (s.2.1.getD i (0, 0, 0)).2.1) (hl : ¬ lang = 2) (H : cd h q1 s lang) (he : ∀ i, i < 27 → cv h q2 i (e i)) (D : dcx h R p dr) (hr : yr p s.2.1 (e, [], dr) = some r) : ∃ h', p_16 h q1 q2 = some (r.1, h') ∧ (∀ i, i < 27 → cv h' 29 i (r.2.2.1 i)) ∧ dcx h' R p r.2.2.2.2 ∧ h' 28 3 = r.2.1 ∧ w_fr (fun q => xP q ∨ q = 40 ∨ q = R ∨ q = R + 3) h h' ∧ (∀ b, b ≠ 0 → b ≠ 3 → h' 40 b = h 40 b) ∧ (∀ b, b ≠ 2 → h' R b = h R b) ∧ (h 40 5 = 0 → h' R = h R ∧ h' (R + 3) = h (R + 3) ∧ h' 40 0 = h 40 0) := by
  have hR := D.1.1
  obtain ⟨hq0, hq1⟩ := hq
  obtain ⟨g0, a1, a2, a3⟩ := c_72 (h := h) (q := 29) (q2 := q2) (by omega) (by omega)
  unfold p_16
  rw [a1]
  simp only [Option.bind_some, w_let]
  generalize hg : w_up (w_up (w_up g0 28 2 0) 28 3 0) 28 4 (Int32.ofNat 40) = g
  have eg : ∀ z, z ≠ 28 → g z = g0 z := fun z hz => by subst hg; exact funext fun b => by rw [w_up_q hz, w_up_q hz, w_up_q hz]
  have eh : ∀ z, z ≠ 28 → z ≠ 30 → z ≠ 31 → g z = h z := fun z h1 h2 h3 => by rw [eg z h1, a3 z (by omega)]
  have g2 : g 28 2 = 0 := by subst hg; rw [w_up_b (by decide), w_up_b (by decide), w_up_at]
  have g3 : g 28 3 = 0 := by subst hg; rw [w_up_b (by decide), w_up_at]
  have g4 : g 28 4 = 40 := by subst hg; exact w_up_at
  have Hg : cd g q1 s lang := cd_fr H (eh _ (by omega) (by omega) (by omega)) (eh _ (by omega) (by omega) (by omega)) (eh _ (by omega) (by omega) (by omega)) (eh _ (by omega) (by omega) (by omega))
  have Dg : dcx g R p dr := dcx_fr D (eh _ (by omega) (by omega) (by omega)) (eh _ (by omega) (by omega) (by omega)) (eh _ (by omega) (by omega) (by omega))
  have HP : pm g (e, [], dr) := ⟨fun i hi => cv_fr (a2 i (e i) hi (he i hi)) (eg _ (by decide)) (eg _ (by decide)), trivial, g2, by show 0 ≤ 27; omega, g4⟩
  have h41 := H.2.1
  obtain ⟨h', z, b1, b2, b3, b4, b5⟩ := run_16z (p := p) (R := R) ⟨hq0, hq1⟩ hok s.2.1.length 0 g (e, [], dr) w_N r (by omega) Hg HP Dg (by rw [List.drop_zero]; exact hr) (by unfold w_N; omega)
  have fr : w_fr (fun q => xP q ∨ q = 40 ∨ q = R ∨ q = R + 3) h h' := by
    intro z hz
    have : ¬ xP z := fun x => hz (Or.inl x)
    unfold xP at this
    rw [b5.1 z hz, eh z (by omega) (by omega) (by omega)]
  have f40 : ∀ b, b ≠ 0 → b ≠ 3 → h' 40 b = h 40 b := fun b h1 h2 => by rw [b5.2.2.1 b h1 h2, eh 40 (by decide) (by decide) (by decide)]
  have fR : ∀ b, b ≠ 2 → h' R b = h R b := fun b h1 => by rw [b5.2.2.2.1 b h1, eh R (by omega) (by omega) (by omega)]
  have fT : h 40 5 = 0 → h' R = h R ∧ h' (R + 3) = h (R + 3) ∧ h' 40 0 = h 40 0 := fun h0 => by
    obtain ⟨t1, t2, t3⟩ := b5.2.2.2.2 (by rw [eh 40 (by decide) (by decide) (by decide)]; exact h0)
    exact ⟨t1.trans (eh R (by omega) (by omega) (by omega)), t2.trans (eh (R + 3) (by omega) (by omega) (by omega)), t3.trans (by rw [eh 40 (by decide) (by decide) (by decide)])⟩
  rw [Hg.2.2.2.1, if_neg hl]
  have b1' : w_lp (fun (t : Int32 × Hp) => l_16_23 q1 t.1 t.2) w_N (0, g) = some z := b1
  rw [b1']
  rcases b2 with ⟨c1, c2, rfl⟩ | ⟨c1, j, hj, c2, rfl⟩
  · refine ⟨h', by rw [c1]; rfl, b3.1, b4, ?_, fr, f40, fR, fT⟩
    rw [b5.2.1 3 (by decide), g3, c2]
  · have hz : ∀ z, z = q1 ∨ z = q1 + 1 ∨ z = q1 + 2 ∨ z = q1 + 3 → h' z = h z := by
      intro z hz
      refine fr z ?_
      unfold xP
      omega
    have e3 : h' (q1 + 3) j = r.2.1 := by rw [hz _ (Or.inr (Or.inr (Or.inr rfl))), c2]; exact (H.2.2.1 j hj).2.2
    simp (disch := omega) only [Option.bind_some, Sum.elim_inl, u_ix, u_cl, w_gd, w_let, e3]
    have hne : ∀ q, q ≠ 28 → w_up h' 28 3 r.2.1 q = h' q := fun q hq => funext fun b => w_up_q hq
    refine ⟨_, rfl, fun i hi => cv_fr (b3.1 i hi) (hne _ (by decide)) (hne _ (by decide)), dcx_fr b4 (hne _ (by decide)) (hne _ (by omega)) (hne _ (by omega)), w_up_at, fun q hq => ?_, fun b h1 h2 => ?_, fun b h1 => ?_, fun h0 => ?_⟩
    · rw [hne q (fun x => hq (Or.inl (Or.inl x)))]; exact fr q hq
    · rw [hne 40 (by decide)]; exact f40 b h1 h2
    · rw [hne R (by omega)]; exact fR b h1
    · rw [hne R (by omega), hne (R + 3) (by omega), hne 40 (by decide)]; exact fT h0
end S9k
