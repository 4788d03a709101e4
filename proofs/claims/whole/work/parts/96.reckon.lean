/-! ===== the model reckons a whole expression; statements ===== -/
/-- what a statement leaves: also the own values, and the result of the cell c in the row qr -/
def evgP (qr q : Nat) : Prop := evfP q ∨ q = 1131 ∨ q = qr
def evg (c qr : Nat) (m m' : Hp) : Prop := w_fr (evgP qr) m m' ∧ (∀ b, b ≠ 67 → b ≠ 70 → b ≠ 72 → b ≠ 74 → b ≠ 75 → b ≠ 76 → b ≠ 80 → b ≠ 30 → b ≠ 31 → m' 1076 b = m 1076 b) ∧ (∀ b, b < 40 * c ∨ 40 * c + 40 ≤ b ∨ m 1076 29 = 2 → m' 1095 b = m 1095 b) ∧ ∀ b, b < 9 * c ∨ 9 * c + 9 ≤ b → m' qr b = m qr b
/-- fetching gives fe, whatever statements did -/
def FG (c qr : Nat) (fe : Nat → Option VL) (m : Hp) : Prop := ∀ g, evg c qr m g → ∀ i, i < 26 → ∃ g', p_194 g (Int32.ofNat c) (Int32.ofNat (97 + i)) = some (ofB (fe i).isSome, g') ∧ mv g' 1132 0 (fe i) ∧ w_fr (fun q => q = 1132) g g'
/-- a row for results -/
def qres (qr : Nat) : Prop := qr = 1094 ∨ qr = 1124
section S96
variable {T : List Int32} {c qr : Nat} {p : DP} {e fe : Nat → Option VL} {nm : Nat → Prop} {m m' : Hp} {d : DR}
theorem evg_refl : evg c qr m m := ⟨w_fr_refl _ _, fun _ _ _ _ _ _ _ _ _ _ => rfl, fun _ _ => rfl, fun _ _ => rfl⟩
theorem evg_trans {a b d : Hp} (x : evg c qr a b) (y : evg c qr b d) : evg c qr a d := ⟨w_fr_trans x.1 y.1, fun k h1 h2 h3 h4 h5 h6 h7 h8 h9 => (y.2.1 k h1 h2 h3 h4 h5 h6 h7 h8 h9).trans (x.2.1 k h1 h2 h3 h4 h5 h6 h7 h8 h9), fun k h => (y.2.2.1 k (by rw [x.2.1 29 (by decide) (by decide) (by decide) (by decide) (by decide) (by decide) (by decide) (by decide) (by decide)]; exact h)).trans (x.2.2.1 k h), fun k h => (y.2.2.2 k h).trans (x.2.2.2 k h)⟩
theorem evg_evf (hq : qres qr) {a b : Hp} (x : evf c a b) : evg c qr a b := ⟨w_fr_mono x.1 (fun q hq => Or.inl hq), fun k h1 h2 h3 _ h5 h6 _ h8 h9 => x.2.1 k h1 h2 h3 h5 h6 h8 h9, x.2.2, fun k _ => by rw [x.1 qr (by unfold qres at hq; unfold evfP; omega)]⟩
theorem evg_76 {b : Nat} {x : Int32} (hq : qres qr) (hb : b = 67 ∨ b = 70 ∨ b = 72 ∨ b = 74 ∨ b = 80 ∨ b = 75 ∨ b = 76) : evg c qr m (w_up m 1076 b x) := ⟨w_fr_up (w_fr_refl _ _) (Or.inl (Or.inl rfl)), fun k h1 h2 h3 h4 h5 h6 h7 _ _ => w_up_b (by omega), fun k _ => w_up_q (by decide), fun k _ => w_up_q (by unfold qres at hq; omega)⟩
theorem FG_evg (H : FG c qr fe m) (f : evg c qr m m') : FG c qr fe m' := fun g hg => H g (evg_trans f hg)
theorem FE_FG (hq : qres qr) (H : FG c qr fe m) : FE c fe m := fun g hg => H g (evg_evf hq hg)
/-- an expression is reckoned -/
theorem m_207 {s : RS} (hT : T.length ≤ 40) (hp : s.1 ≤ T.length) (hl : s.2.1.length ≤ s.1) (hb : (rex T s).1 = true) (he : ¬ (rex T s).2.1 < T.length ∨ cat T (rex T s).2.1 = 59) (hL : LC T nm s.1 (rex T s).2.1) (hB : EVB T c e fe nm m) (h67 : m 1076 67 = Int32.ofNat s.1) (h75 : m 1076 75 = 0) (h76 : m 1076 76 < 0) (hd : dm m c p d) (hd1 : d.1 ≤ s.1) : ∃ C, (rex T s).2.2.1 = s.2.1 ++ C ∧ ∃ r, xq p C (e, [], d) = some r ∧ r.2.2.2.1 ≤ (rex T s).2.1 ∧ ∃ m', p_207 m = some m' ∧ evf c m m' ∧ (r.1 = 0 → (∃ v, r.2 = (e, [v], r.2.2.2)) ∧ EV T c p e fe nm m' ((rex T s).2.1, [], r.2.2.1, r.2.2.2, false)) ∧ (¬ r.1 = 0 → EX c p m m' r.1 r.2.2.2) := by
  have hr := rex_E hT hp
  rw [show rex T s = (true, (rex T s).2) by rw [← hb]] at hr
  generalize hs' : (rex T s).2 = s' at *
  have hm := rR_mono _ _ _ _ _ hr
  have hs1 := hm.2.1 hp
  have hD : ¬ isD (cat T s'.1) = true := by
    rcases he with he | he
    · intro hd; exact he (isD_lt hd)
    · rw [he]; decide
  obtain ⟨C, x1, y1⟩ := s_ev (T := T) (c := c) (p := p) (e := e) (fe := fe) (nm := nm) hT 400 0 s s' hr hp (by decide) (by rw [if_neg (by decide)]; omega) (fun _ => hD) hL
  obtain ⟨r, x2, y2, z2, g2⟩ := y1.1 (by decide) [] [] d (fun _ x O' h => by cases h) (Nat.zero_le _) hd1
  refine ⟨C, x1, r, x2, z2, ?_⟩
  generalize hg : w_up (w_up m 1076 70 0) 1076 72 0 = g
  have gf : evf c m g := by
    subst hg
    exact ⟨w_fr_up (w_fr_up (w_fr_refl _ _) (Or.inl rfl)) (Or.inl rfl), fun b _ h2 h3 _ _ _ _ => by rw [w_up_b h3, w_up_b h2], fun b _ => by rw [w_up_q (by decide), w_up_q (by decide)]⟩
  have gb : ∀ b, b ≠ 70 → b ≠ 72 → g 1076 b = m 1076 b := fun b n1 n2 => by subst hg; rw [w_up_b n2, w_up_b n1]
  have gq : ∀ q, q ≠ 1076 → g q = m q := fun q hq => by subst hg; exact funext fun b => by rw [w_up_q hq, w_up_q hq]
  have E0 : EV T c p e fe nm g (s.1, [], [], d, true) := by
    refine ⟨EVB_evf hB gf, by rw [gb 67 (by decide) (by decide)]; exact h67, hp, trivial, Nat.zero_le _, ?_, trivial, Nat.zero_le _, ?_, by rw [gb 75 (by decide) (by decide)]; exact h75, by rw [gb 76 (by decide) (by decide)]; exact h76, dm_fr hd (gq _ (by decide)) (gq _ (by decide)) (fun b _ h2 h3 _ _ => gb b h2 h3)⟩
    · subst hg; rw [w_up_b (by decide), w_up_at]; rfl
    · subst hg; exact w_up_at
  have ep : p_207 m = w_lp (fun (s : Int32 × Hp) => l_207_8 s.1 s.2) w_N (ofB true, g) := by
    unfold p_207
    simp only [w_let]
    rw [hg]; rfl
  have eX : ∀ m', EX c p g m' r.1 r.2.2.2 → EX c p m m' r.1 r.2.2.2 := fun m' h => ⟨h.1, h.2.1, by rw [h.2.2.1]; exact gb 80 (by decide) (by decide), h.2.2.2⟩
  rcases g2 with ⟨e1, gx⟩ | ⟨P, V1, gr, op, fl, n46⟩
  · obtain ⟨m', a1, a2, a3⟩ := gx g w_N E0 (by show 43 ≤ w_N + s.1; unfold w_N; omega)
    exact ⟨m', ep.trans a1, evf_trans gf a2, fun h => absurd h e1, fun _ => eX m' a3⟩
  · obtain ⟨m1, K1, a1, a2, a3, a4⟩ := gr g w_N E0 (by show 43 ≤ w_N + s.1; unfold w_N; omega)
    rw [List.append_nil] at a2
    obtain ⟨m2, b1, b2, b3, b4, b5⟩ := st_end (T := T) (fe := fe) (nm := nm) he (show opsN 1 P from op) fl a2 a1
    refine ⟨m2, (ep.trans a4).trans b1, evf_trans gf (evf_trans a3 b2), fun h => ⟨y2 h, b4 h⟩, fun h => eX m2 ?_⟩
    exact EX_evf a3 (b5 h)
end S96
