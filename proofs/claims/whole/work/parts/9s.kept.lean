/-! ===== kept runs: moved, copied ===== -/
section S9s
variable {h h' m m' : Hp} {T : List Int32} {c : Nat} {lang : Int32}
/-- a kept run where it stands, or where the model's was moved to -/
theorem KE_mv {q r1 r2 r3 r4 r5 k k' : Nat} {E : KEn} (K : KE h m q r1 r2 r3 r4 r5 k lang E) (e1 : h' (q + 1) 1 = h (q + 1) 1) (e2 : h' (q + 2) = h (q + 2)) (e4 : h' (q + 4) = h (q + 4)) (e5 : h' (q + 5) = h (q + 5)) (e7 : h' (q + 7) = h (q + 7)) (e8 : h' (q + 8) = h (q + 8)) (f1 : ∀ b, b < 40 → m' r1 (40 * k' + b) = m r1 (40 * k + b)) (f2 : m' r2 k' = m r2 k) (f3 : ∀ b, b < 234 → m' r3 (234 * k' + b) = m r3 (234 * k + b)) (f4 : ∀ b, b < 234 → m' r4 (234 * k' + b) = m r4 (234 * k + b)) (f5 : ∀ b, b < 9 → m' r5 (9 * k' + b) = m r5 (9 * k + b)) : KE h' m' q r1 r2 r3 r4 r5 k' lang E := by
  obtain ⟨K1, K2, K3, K4, K5, K6, K7, K8, K9, K10⟩ := K
  have mvv : ∀ (r x : Nat) (v : Option VL), x < 26 → (∀ b, b < 234 → m' r (234 * k' + b) = m r (234 * k + b)) → mv m r (234 * k + 9 * x) v → mv m' r (234 * k' + 9 * x) v := by
    intro r x v hx hf H
    have at_ : ∀ b, b < 9 → m' r (234 * k' + 9 * x + b) = m r (234 * k + 9 * x + b) := fun b hb => by
      have := hf (9 * x + b) (by omega)
      rw [← Nat.add_assoc, ← Nat.add_assoc] at this; exact this
    cases v with
    | none => exact (at_ 0 (by decide)).trans H
    | some v =>
      cases v with
      | inl n => exact ⟨(at_ 0 (by decide)).trans H.1, (at_ 1 (by decide)).trans H.2⟩
      | inr l =>
        refine ⟨H.1, (at_ 0 (by decide)).trans H.2.1, fun j hj => ?_⟩
        have h8 := H.1
        have := at_ (1 + j) (by omega)
        rw [← Nat.add_assoc, ← Nat.add_assoc] at this
        exact this.trans (H.2.2 j hj)
  have mv9 : ∀ v : Option VL, mv m r5 (9 * k) v → mv m' r5 (9 * k') v := by
    intro v H
    cases v with
    | none => exact (f5 0 (by decide)).trans H
    | some v =>
      cases v with
      | inl n => exact ⟨(f5 0 (by decide)).trans H.1, (f5 1 (by decide)).trans H.2⟩
      | inr l =>
        refine ⟨H.1, (f5 0 (by decide)).trans H.2.1, fun j hj => ?_⟩
        have h8 := H.1
        have := f5 (1 + j) (by omega)
        rw [← Nat.add_assoc, ← Nat.add_assoc] at this
        exact this.trans (H.2.2 j hj)
  have h40 := K1.1
  refine ⟨tx_fr K1 e1 e2, fun j hj => (f1 j (by omega)).trans (K2 j hj), f2.trans K3, fun x hx => cv_fr (K4 x hx) e4 e5, fun x hx hu => ⟨mvv r3 x _ hx f3 (K5 x hx hu).1, (K5 x hx hu).2⟩, K6, fun x hx => cv_fr (K7 x hx) e7 e8, fun x hx => mvv r4 x _ hx f4 (K8 x hx), mv9 _ K9, K10⟩
/-- the class keeps a run -/
theorem c_13 {q t u g : Nat} {U G : Nat → Option VL} (hT : tx h t T) (hU : ∀ x, x < 27 → cv h u x (U x)) (hG : ∀ x, x < 27 → cv h g x (G x)) (ht : ∀ j, 1 ≤ j → j ≤ 8 → t ≠ q + j ∧ t + 1 ≠ q + j) (hu : ∀ j, 1 ≤ j → j ≤ 8 → u + 1 ≠ q + j ∧ u + 2 ≠ q + j) (hg : ∀ j, 1 ≤ j → j ≤ 8 → g + 1 ≠ q + j ∧ g + 2 ≠ q + j) (hu2 : u ≠ q + 3) (hg2 : g ≠ q + 6) : ∃ h', p_13 h q t u g = some h' ∧ tx h' (q + 1) T ∧ (∀ x, x < 27 → cv h' (q + 3) x (U x)) ∧ (∀ x, x < 27 → cv h' (q + 6) x (G x)) ∧ w_fr (fun z => z = q + 1 ∨ z = q + 2 ∨ z = q + 4 ∨ z = q + 5 ∨ z = q + 7 ∨ z = q + 8) h h' ∧ ∀ b, b ≠ 1 → h' (q + 1) b = h (q + 1) b := by
  have t1 := ht 1 (by decide) (by decide)
  have t2 := ht 2 (by decide) (by decide)
  have u1 := hu 1 (by decide) (by decide)
  have u2 := hu 2 (by decide) (by decide)
  have u4 := hu 4 (by decide) (by decide)
  have u5 := hu 5 (by decide) (by decide)
  have g1 := hg 1 (by decide) (by decide)
  have g2 := hg 2 (by decide) (by decide)
  have g4 := hg 4 (by decide) (by decide)
  have g5 := hg 5 (by decide) (by decide)
  have g7 := hg 7 (by decide) (by decide)
  have g8 := hg 8 (by decide) (by decide)
  obtain ⟨h1, a1, a2, a3, a4⟩ := s_61 (q0 := q + 1) hT (by omega) (by omega) (by omega)
  have hU1 : ∀ x, x < 27 → cv h1 u x (U x) := fun x hx => cv_fr (hU x hx) (a2 _ (by omega)) (a2 _ (by omega))
  obtain ⟨h2, b1, b2, b3⟩ := c_72 (h := h1) (q := q + 3) (q2 := u) (by omega) hu2
  have hG2 : ∀ x, x < 27 → cv h2 g x (G x) := fun x hx => cv_fr (hG x hx) ((b3 _ (by omega)).trans (a2 _ (by omega))) ((b3 _ (by omega)).trans (a2 _ (by omega)))
  obtain ⟨h3, c1, c2, c3⟩ := c_72 (h := h2) (q := q + 6) (q2 := g) (by omega) hg2
  refine ⟨h3, ?_, ?_, fun x hx => cv_fr (b2 x _ hx (hU1 x hx)) (c3 _ (by omega)) (c3 _ (by omega)), fun x hx => c2 x _ hx (hG2 x hx), fun z hz => ?_, fun b hb => ?_⟩
  · unfold p_13
    rw [a1]
    simp only [Option.bind_some]
    rw [b1]
    simp only [Option.bind_some]
    rw [c1]; rfl
  · exact tx_fr2 a4 ((c3 _ (by omega)).trans (b3 _ (by omega))) ((c3 _ (by omega)).trans (b3 _ (by omega)))
  · rw [c3 z (by omega), b3 z (by omega), a2 z (by omega)]
  · rw [c3 _ (by omega), b3 _ (by omega)]; exact a3 b hb
/-- a row's part goes down -/
theorem m_221 {q a k : Nat} (h1 : a + k + k ≤ w_len q) (h2 : w_len q ≤ 100000) (hk : k ≤ 400) : p_221 m q (Int32.ofNat (a + k)) (Int32.ofNat a) (Int32.ofNat k) = some (w_fi m q a k (fun i => m q (a + k + i))) := by
  unfold p_221
  rw [show ((0, m) : Int32 × Hp) = (Int32.ofNat 0, w_fi m q a 0 (fun i => m q (a + k + i))) by rw [w_fi0]; rfl]
  refine u_for (N := w_N) (fun i => (Int32.ofNat i, w_fi m q a i (fun i => m q (a + k + i)))) k (by unfold w_N; omega) ?_ ?_
  · intro i hi
    have hlt : Int32.ofNat i < Int32.ofNat k := (u_lt (by omega) (by omega)).mpr hi
    have ev : w_fi m q a i (fun i => m q (a + k + i)) q (a + k + i) = m q (a + k + i) := w_fi_b (by omega)
    have e1 : Int32.ofNat (a + k) + Int32.ofNat i = Int32.ofNat (a + k + i) := u_add _ _
    have e2 : Int32.ofNat a + Int32.ofNat i = Int32.ofNat (a + i) := u_add _ _
    simp (disch := omega) only [l_221_2, hlt, if_true, e1, e2, u_ix, u_cl, w_gd, ev, w_let, u_S]
    rw [w_fiS]
  · have hlt : ¬ Int32.ofNat k < Int32.ofNat k := fun h => by have := (u_lt (by omega) (by omega)).mp h; omega
    simp only [l_221_2, hlt, if_false]
/-- 234 slots are copied from one row to another -/
theorem m_cp234 {r1 r2 a b : Nat} {f : Int32 → Hp → Option ((Int32 × Hp) ⊕ Hp)} (hne : r1 ≠ r2) (hf : ∀ i g, i < 234 → f (Int32.ofNat i) g = some (.inl (Int32.ofNat (i + 1), w_up g r2 (b + i) (g r1 (a + i))))) (hf2 : ∀ g, f (Int32.ofNat 234) g = some (.inr g)) : w_lp (fun (s : Int32 × Hp) => f s.1 s.2) w_N (0, m) = some (w_fi m r2 b 234 (fun i => m r1 (a + i))) := by
  rw [show ((0, m) : Int32 × Hp) = (Int32.ofNat 0, w_fi m r2 b 0 (fun i => m r1 (a + i))) by rw [w_fi0]; rfl]
  refine u_for (N := w_N) (fun i => (Int32.ofNat i, w_fi m r2 b i (fun i => m r1 (a + i)))) 234 (by decide) ?_ ?_
  · intro i hi
    show f (Int32.ofNat i) (w_fi m r2 b i (fun i => m r1 (a + i))) = _
    rw [hf i _ hi, w_fi_q hne, w_fiS]
  · exact hf2 _
/-- the model keeps the values that are used -/
theorem m_219 {r o : Nat} {us : Int32} {fe : Nat → Option VL} (hc : c < 16) (hus : m 1085 c = us) (hF : FH c 0 fe m) (h29 : m 1076 29 = 0) (hr : o + 234 ≤ w_len r) (hb : w_len r ≤ 100000) (hrn : r ≠ 1132 ∧ r ≠ 1076 ∧ r ≠ 1083 ∧ r ≠ 1084 ∧ r ≠ 1085 ∧ r ≠ 1112 ∧ r ≠ 1115 ∧ r ≠ 1093 ∧ r ≠ 1123) : ∃ m', p_219 m (Int32.ofNat c) r (Int32.ofNat o) = some m' ∧ (∀ x, x < 26 → bt us x = true → mv m' r (o + 9 * x) (fe x)) ∧ w_fr (fun q => q = 1132 ∨ q = r) m m' ∧ ∀ b, b < o ∨ o + 234 ≤ b → m' r b = m r b := by
  have lp : ok (p_219 m (Int32.ofNat c) r (Int32.ofNat o)) (fun g => (∀ x, x < 26 → bt us x = true → mv g r (o + 9 * x) (fe x)) ∧ w_fr (fun q => q = 1132 ∨ q = r) m g ∧ ∀ b, b < o ∨ o + 234 ≤ b → g r b = m r b) := by
    unfold p_219
    refine ok_for (fun i s => s.1 = Int32.ofNat i ∧ (∀ x, x < i → bt us x = true → mv s.2 r (o + 9 * x) (fe x)) ∧ w_fr (fun q => q = 1132 ∨ q = r) m s.2 ∧ ∀ b, b < o ∨ o + 234 ≤ b → s.2 r b = m r b) 26 ⟨rfl, fun x hx => absurd hx (Nat.not_lt_zero x), w_fr_refl _ _, fun _ _ => rfl⟩ (by decide) ?_ ?_
    · rintro i ⟨i', g⟩ hi ⟨e1, hv, hf, hfb⟩
      simp only at e1 hv hf hfb
      subst e1
      obtain ⟨n1, n2, n3, n4, n5, n6, n7, n8, n9⟩ := hrn
      have hlt : Int32.ofNat i < 26 := (u_ltL (by omega) (by decide)).mpr hi
      have gr : ∀ q, q ≠ 1132 → q ≠ r → g q = m q := fun q h1 h2 => hf q (by omega)
      have gus : g 1085 c = us := by rw [gr 1085 (by decide) (fun h => n5 h.symm)]; exact hus
      show ok (l_219_2 (Int32.ofNat c) r (Int32.ofNat o) (Int32.ofNat i) g) _
      unfold l_219_2
      rw [if_pos hlt, u_ix hc (by decide), u_cl (by omega), gus, bt_shr (by omega)]
      simp only [w_gd]
      by_cases hu : bt us i = true
      · rw [if_pos (by rw [if_pos hu])]
        have g76 : g 1076 = m 1076 := gr 1076 (by decide) (fun h => n2 h.symm)
        obtain ⟨g2, b1, b2, b3⟩ := hF g (by rw [g76]) (by rw [g76]) (by rw [g76]; exact h29) (gr _ (by decide) (fun h => n3 h.symm)) (gr _ (by decide) (fun h => n4 h.symm)) (gr _ (by decide) (fun h => n5 h.symm)) (gr _ (by decide) (fun h => n6 h.symm)) (gr _ (by decide) (fun h => n7 h.symm)) (gr _ (by decide) (fun h => n8 h.symm)) (gr _ (by decide) (fun h => n9 h.symm)) i hi
        have e97 : (97 : Int32) + Int32.ofNat i = Int32.ofNat (97 + i) := by
          rw [show (97 : Int32) = Int32.ofNat 97 from rfl, u_add]
        have cp := m_193 (m := g2) (r := 1132) (r2 := r) (o := 0) (o2 := o + 9 * i) (by rw [w_len_1132]; omega) (by omega) (by rw [w_len_1132]; omega) hb (Or.inl (fun h => n1 h.symm))
        rw [e97, b1]
        simp only [Option.bind_some]
        rw [u_234, show p_193 g2 1132 0 r (Int32.ofNat (o + 9 * i)) = _ from cp]
        simp only [Option.bind_some, u_S]
        refine ok_some ⟨rfl, fun x hx hux => ?_, fun q hq => ?_, fun b hb2 => ?_⟩
        · dsimp only
          by_cases exi : x = i
          · subst exi; exact mv_cp b2
          · exact mv_fr (hv x (by omega) hux) (fun b h1 h2 => by rw [w_fi_b (by omega), b3 r n1])
        · dsimp only
          rw [show w_fi g2 r (o + 9 * i) 9 (fun k => g2 1132 (0 + k)) q = g2 q from funext fun b => w_fi_q (fun h => hq (Or.inr h)), b3 q (fun h => hq (Or.inl h)), hf q hq]
        · dsimp only
          rw [w_fi_b (by omega), b3 r n1]; exact hfb b hb2
      · rw [if_neg (by rw [if_neg hu]; decide), u_S]
        refine ok_some ⟨rfl, fun x hx hux => ?_, hf, hfb⟩
        by_cases exi : x = i
        · subst exi; exact absurd hux hu
        · exact hv x (by omega) hux
    · rintro ⟨i', g⟩ ⟨e1, hv, hf, hfb⟩
      simp only at e1 hv hf hfb
      subst e1
      show ok (l_219_2 (Int32.ofNat c) r (Int32.ofNat o) (Int32.ofNat 26) g) _
      unfold l_219_2
      rw [if_neg (show ¬ Int32.ofNat 26 < 26 by decide)]
      exact ok_some ⟨hv, hf, hfb⟩
  exact lp
end S9s
