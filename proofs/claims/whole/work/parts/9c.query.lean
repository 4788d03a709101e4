/-! ===== the class's run, also of queries ===== -/
section S9c
variable {h h' : Hp} {P : PM} {p : DP} {R : Nat}
theorem qs_xs {k d : Int32} (hk : okS k d) : qs p k d P = xs p k d P := by
  have n : ¬ (k = 15 ∨ k = 16 ∨ k = 17) ∧ ¬ (k = 18 ∨ k = 19) := by
    rcases hk with rfl | ⟨h1, -⟩ | h1 | h1 | ⟨rfl, -⟩ | rfl | rfl | ⟨rfl, -⟩ | rfl
    · decide
    · rcases h1 with rfl | rfl | rfl | rfl <;> decide
    · rcases h1 with rfl | rfl <;> decide
    · rcases h1 with rfl | rfl | rfl <;> decide
    all_goals decide
  unfold qs
  rw [if_neg n.1, if_neg n.2]
theorem yr_xr : ∀ (C : List ST) (P : PM), (∀ a ∈ C, okS a.1 a.2.1) → yr p C P = xr p C P := by
  intro C
  induction C with
  | nil => intro P _; rfl
  | cons a C ih =>
    intro P h
    simp only [yr, xr]
    rw [qs_xs (h a (List.mem_cons_self ..))]
    cases xs p a.1 a.2.1 P with
    | none => rfl
    | some r =>
      by_cases e : r.1 = 0
      · simp only [e, if_true]; exact ih r.2 (fun x hx => h x (List.mem_cons_of_mem _ hx))
      · simp only [e, if_false]
theorem run_16y {q1 : Nat} {s : RS} {lang : Int32} (hq : apt R q1) (hok : ∀ i, i < s.2.1.length → okQ (s.2.1.getD i (0, 0, 0)).1 (s.2.1.getD i (0, 0, 0)).2.1) : ∀ (k i : Nat) (h : Hp) (P : PM) (N : Nat) (r : Int32 × Int32 × PM), i + k = s.2.1.length → cd h q1 s lang → pm h P → dc h R p P.2.2 → yr p (s.2.1.drop i) P = some r → k < N → ∃ h' z, w_lp (fun (t : Int32 × Hp) => l_16_23 q1 t.1 t.2) N (Int32.ofNat i, h) = some z ∧ ((r.1 = 0 ∧ r.2.1 = 0 ∧ z = .inr (0, h')) ∨ (¬ r.1 = 0 ∧ ∃ j, j < s.2.1.length ∧ r.2.1 = (s.2.1.getD j (0, 0, 0)).2.2 ∧ z = .inl (Int32.ofNat j, r.1, h'))) ∧ pm h' r.2.2 ∧ dc h' R p r.2.2.2.2 ∧ rfx R h h' := by
  intro k
  induction k with
  | zero =>
    intro i h P N r hk H HP HD hr hN
    have e : i = s.2.1.length := by omega
    subst e
    rw [List.drop_length] at hr
    cases hr
    have h41 := H.2.1
    refine ⟨h, .inr (0, h), u_once hN ?_, Or.inl ⟨rfl, rfl, rfl⟩, HP, HD, rfx_refl⟩
    show l_16_23 q1 _ h = _
    unfold l_16_23
    rw [H.1, if_neg]
    exact fun e => by have := (u_lt (by omega) (by omega)).mp e; omega
  | succ k ih =>
    intro i h P N r hk H HP HD hr hN
    obtain ⟨N, rfl⟩ : ∃ m, N = m + 1 := ⟨N - 1, by omega⟩
    have hi : i < s.2.1.length := by omega
    have h41 := H.2.1
    have hd : s.2.1.drop i = s.2.1.getD i (0, 0, 0) :: s.2.1.drop (i + 1) := by
      rw [List.drop_eq_getElem_cons hi, List.getD_eq_getElem?_getD, List.getElem?_eq_getElem hi]; rfl
    rw [hd] at hr
    have ho := hok i hi
    obtain ⟨t1, t2, t3⟩ := H.2.2.1 i hi
    generalize ha : s.2.1.getD i (0, 0, 0) = a at *
    simp only [yr] at hr
    cases hx : qs p a.1 a.2.1 P with
    | none => rw [hx] at hr; cases hr
    | some r1 =>
      rw [hx] at hr
      obtain ⟨h1, a1, a2, a3, a4⟩ := y_18 ho HP HD hx
      have hlt : Int32.ofNat i < Int32.ofNat s.2.1.length := (u_lt (by omega) (by omega)).mpr hi
      have hst : l_16_23 q1 (Int32.ofNat i) h = if r1.1 = 0 then some (.inl (Int32.ofNat (i + 1), h1)) else some (.inr (.inl (Int32.ofNat i, r1.1, h1))) := by
        unfold l_16_23
        rw [H.1, if_pos hlt]
        simp (disch := omega) only [u_ix, u_cl, w_gd, t1, t2, a1, Option.bind_some, u_S]
      have hz : ∀ z, z = q1 ∨ z = q1 + 1 ∨ z = q1 + 2 ∨ z = q1 + 3 → h1 z = h z := by
        intro z hz
        refine a4.1 z ?_
        obtain ⟨b1, b2⟩ := hq
        unfold xP
        omega
      by_cases e0 : r1.1 = 0
      · simp only [e0, if_true] at hr hst
        have H1 : cd h1 q1 s lang := cd_fr H (hz _ (Or.inl rfl)) (hz _ (Or.inr (Or.inl rfl))) (hz _ (Or.inr (Or.inr (Or.inl rfl)))) (hz _ (Or.inr (Or.inr (Or.inr rfl))))
        obtain ⟨h2, z, b1, b2, b3, b4, b5⟩ := ih (i + 1) h1 r1.2 N r (by omega) H1 a2 a3 hr (by omega)
        refine ⟨h2, z, ?_, b2, b3, b4, rfx_trans a4 b5⟩
        simp only [w_lp, hst]
        exact b1
      · simp only [e0, if_false] at hr hst
        cases hr
        refine ⟨h1, _, u_once (by omega) hst, Or.inr ⟨e0, i, hi, ?_, rfl⟩, a2, a3, a4⟩
        show a.2.2 = (s.2.1.getD i (0, 0, 0)).2.2
        rw [ha]
/-- the class's run of statements -/
theorem c_16y {q1 q2 : Nat} {s : RS} {lang : Int32} {e : Nat → Option VL} {dr : DR} {r : Int32 × Int32 × PM} (hq : apt R q1) (hq2 : 40 < q2) (hok : ∀ i, i < s.2.1.length → okQ (s.2.1.getD i (0, 0, 0)).1 (s.2.1.getD i (0, 0, 0)).2.1) (hl : ¬ lang = 2) (H : cd h q1 s lang) (he : ∀ i, i < 27 → cv h q2 i (e i)) (D : dc h R p dr) (hr : yr p s.2.1 (e, [], dr) = some r) : ∃ h', p_16 h q1 q2 = some (r.1, h') ∧ (∀ i, i < 27 → cv h' 29 i (r.2.2.1 i)) ∧ dc h' R p r.2.2.2.2 ∧ h' 28 3 = r.2.1 ∧ w_fr (fun q => xP q ∨ q = 40 ∨ q = R ∨ q = R + 3) h h' ∧ (∀ b, b ≠ 0 → b ≠ 3 → h' 40 b = h 40 b) ∧ ∀ b, b ≠ 2 → h' R b = h R b := by
  have hR := D.1
  obtain ⟨hq0, hq1⟩ := hq
  obtain ⟨g0, a1, a2, a3⟩ := c_72 (h := h) (q := 29) (q2 := q2) (by omega) (by omega)
  unfold p_16
  rw [a1]
  simp only [Option.bind_some, w_let]
  generalize hg : w_up (w_up (w_up g0 28 2 0) 28 3 0) 28 4 (Int32.ofNat 40) = g
  have eg : ∀ z, z ≠ 28 → g z = g0 z := fun z hz => by subst hg; exact funext fun b => by rw [w_up_q hz, w_up_q hz, w_up_q hz]
  have eh : ∀ z, z ≠ 28 → z ≠ 30 → z ≠ 31 → g z = h z := fun z h1 h2 h3 => by rw [eg z h1, a3 z (by omega)]
  have g2 : g 28 2 = 0 := by subst hg; rw [w_up_b (by decide), w_up_b (by decide), w_up_at]
  have g3 : g 28 3 = 0 := by subst hg; rw [w_up_b (by decide), w_up_at]
  have g4 : g 28 4 = 40 := by subst hg; exact w_up_at
  have Hg : cd g q1 s lang := cd_fr H (eh _ (by omega) (by omega) (by omega)) (eh _ (by omega) (by omega) (by omega)) (eh _ (by omega) (by omega) (by omega)) (eh _ (by omega) (by omega) (by omega))
  have Dg : dc g R p dr := dc_fr D (eh _ (by omega) (by omega) (by omega)) (eh _ (by omega) (by omega) (by omega)) (eh _ (by omega) (by omega) (by omega))
  have HP : pm g (e, [], dr) := ⟨fun i hi => cv_fr (a2 i (e i) hi (he i hi)) (eg _ (by decide)) (eg _ (by decide)), trivial, g2, by show 0 ≤ 27; omega, g4⟩
  have h41 := H.2.1
  obtain ⟨h', z, b1, b2, b3, b4, b5⟩ := run_16y (p := p) (R := R) ⟨hq0, hq1⟩ hok s.2.1.length 0 g (e, [], dr) w_N r (by omega) Hg HP Dg (by rw [List.drop_zero]; exact hr) (by unfold w_N; omega)
  have fr : w_fr (fun q => xP q ∨ q = 40 ∨ q = R ∨ q = R + 3) h h' := by
    intro z hz
    have : ¬ xP z := fun x => hz (Or.inl x)
    unfold xP at this
    rw [b5.1 z hz, eh z (by omega) (by omega) (by omega)]
  have f40 : ∀ b, b ≠ 0 → b ≠ 3 → h' 40 b = h 40 b := fun b h1 h2 => by rw [b5.2.2.1 b h1 h2, eh 40 (by decide) (by decide) (by decide)]
  have fR : ∀ b, b ≠ 2 → h' R b = h R b := fun b h1 => by rw [b5.2.2.2.1 b h1, eh R (by omega) (by omega) (by omega)]
  rw [Hg.2.2.2.1, if_neg hl]
  have b1' : w_lp (fun (t : Int32 × Hp) => l_16_23 q1 t.1 t.2) w_N (0, g) = some z := b1
  rw [b1']
  rcases b2 with ⟨c1, c2, rfl⟩ | ⟨c1, j, hj, c2, rfl⟩
  · refine ⟨h', by rw [c1]; rfl, b3.1, b4, ?_, fr, f40, fR⟩
    rw [b5.2.1 3 (by decide), g3, c2]
  · have hz : ∀ z, z = q1 ∨ z = q1 + 1 ∨ z = q1 + 2 ∨ z = q1 + 3 → h' z = h z := by
      intro z hz
      refine fr z ?_
      unfold xP
      omega
    have e3 : h' (q1 + 3) j = r.2.1 := by rw [hz _ (Or.inr (Or.inr (Or.inr rfl))), c2]; exact (H.2.2.1 j hj).2.2
    simp (disch := omega) only [Option.bind_some, Sum.elim_inl, u_ix, u_cl, w_gd, w_let, e3]
    have hne : ∀ q, q ≠ 28 → w_up h' 28 3 r.2.1 q = h' q := fun q hq => funext fun b => w_up_q hq
    refine ⟨_, rfl, fun i hi => cv_fr (b3.1 i hi) (hne _ (by decide)) (hne _ (by decide)), dc_fr b4 (hne _ (by decide)) (hne _ (by omega)) (hne _ (by omega)), w_up_at, fun q hq => ?_, fun b h1 h2 => ?_, fun b h1 => ?_⟩
    · rw [hne q (fun x => hq (Or.inl (Or.inl x)))]; exact fr q hq
    · rw [hne 40 (by decide)]; exact f40 b h1 h2
    · rw [hne R (by omega)]; exact fR b h1
end S9c
