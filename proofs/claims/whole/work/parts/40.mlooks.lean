/-! ===== the model's looks gives the states, III ===== -/
section M40
variable {h m : Hp} {n nw : Nat}
def lkC (n : Nat) (g : Hp) : Nat := cnt (fun j => decide (g 1122 j = -1)) n
def lkD (h : Hp) (n nw i : Nat) (g : Hp) : Prop := ∀ k, k < i → g 1122 k = -1 → ∃ j, j < n ∧ ndc h n nw k j = true ∧ g 1122 j = -1
theorem LK_fr {h g g' : Hp} {n nw : Nat} (hL : LK h g n nw) (h1 : g' 1120 = g 1120) (h2 : g' 1121 = g 1121) : LK h g' n nw := by
  unfold LK at *; rw [h1, h2]; exact hL
theorem m_188p {g1 : Hp} {ow : Nat → Int32} (H : MW h g1 n nw) (hL : LK h g1 n nw) (how : ∀ c, c < n → 0 ≤ ow c) (hown : ∀ g c, w_fr (fun q => q = 1122) g1 g → c < n → p_187 g (Int32.ofNat c) = some (ow c)) {x : Int32} {g : Hp} (hI : lkI h g1 n nw ow x g) : ok (w_lp (fun (s : Int32 × Int32 × Int32 × Hp) => l_188_51 s.1 s.2.1 s.2.2.1 s.2.2.2) w_N (x, 0, 0, g)) (fun r => lkI h g1 n nw ow r.1 r.2.2 ∧ ((r.2.1 = 1 ∧ lkC n r.2.2 < lkC n g) ∨ (r.2.1 = 0 ∧ lkD h n nw n r.2.2))) := by
  have h16 := H.1
  refine ok_for (fun i s => s.2.2.1 = Int32.ofNat i ∧ lkI h g1 n nw ow s.1 s.2.2.2 ∧ ((s.2.1 = 1 ∧ lkC n s.2.2.2 < lkC n g) ∨ (s.2.1 = 0 ∧ s.2.2.2 = g ∧ lkD h n nw i s.2.2.2))) n ⟨rfl, hI, Or.inr ⟨rfl, rfl, fun k hk => by omega⟩⟩ (by unfold w_N; omega) ?_ ?_
  · rintro i ⟨y, z, i', k⟩ hi ⟨e, hK, hD⟩
    simp only at e hK hD
    subst e
    have hf := hK.1
    have k0 : k 1076 2 = Int32.ofNat n := by rw [hf 1076 (by decide)]; exact H.2.2.1
    simp only [l_188_51]
    refine ok_T (by rw [k0]; exact (u_lt (by omega) (by omega)).mpr hi) ?_
    simp (disch := omega) only [u_ix, u_cl, w_gd]
    have stay : (k 1122 i = -1 → ∃ j, j < n ∧ ndc h n nw i j = true ∧ k 1122 j = -1) → ok (some (Sum.inl (y, z, Int32.ofNat i + 1, k)) : Option ((Int32 × Int32 × Int32 × Hp) ⊕ Int32 × Int32 × Hp)) (Sum.elim (fun s => s.2.2.1 = Int32.ofNat (i + 1) ∧ lkI h g1 n nw ow s.1 s.2.2.2 ∧ ((s.2.1 = 1 ∧ lkC n s.2.2.2 < lkC n g) ∨ (s.2.1 = 0 ∧ s.2.2.2 = g ∧ lkD h n nw (i + 1) s.2.2.2))) (fun r => lkI h g1 n nw ow r.1 r.2.2 ∧ ((r.2.1 = 1 ∧ lkC n r.2.2 < lkC n g) ∨ (r.2.1 = 0 ∧ lkD h n nw n r.2.2)))) := by
      intro hno
      refine ok_some ⟨u_S i, hK, ?_⟩
      rcases hD with hD | ⟨a, b, d⟩
      · exact Or.inl hD
      · refine Or.inr ⟨a, b, fun q hq hq1 => ?_⟩
        by_cases e : q = i
        · subst e; exact hno hq1
        · exact d q (by omega) hq1
    by_cases hu : k 1122 i = -1
    · refine ok_T hu ?_
      have hb : ∀ j, j < 32 → bt (((k 1120 i) &&& 65535) &&& (y ^^^ (-1))) j = (ndc h n nw i j && !bt y j) := by
        intro j hj
        rw [bt_and, bt_and, bt_not hj, u_all, hf 1120 (by decide), (hL i hi j hj).1]; rfl
      have hz := u_z0 hb
      by_cases hc : ((k 1120 i) &&& 65535) &&& (y ^^^ (-1)) = 0
      · refine ok_T hc ?_
        have hall : ∀ j, j < n → ndc h n nw i j = true → ¬ k 1122 j = -1 := by
          intro j hj hnj hkj
          apply hz.mp hc
          refine (anyb_iff 32).mpr ⟨j, by omega, ?_⟩
          rw [hnj, hK.2.1 j (by omega), hkj]; simp
        have hnr := hK.2.2.1 i hi hu
        have hstp := m_188d h16 how hK hi hu hall
        have fin : ∀ v : Int32, v = stp n (ndc h n nw) (twh h n nw 26) ow (k 1122) i → ok (q_188_140 k y (Int32.ofNat i) v (Int32.ofNat i)) (Sum.elim (fun s => s.2.2.1 = Int32.ofNat (i + 1) ∧ lkI h g1 n nw ow s.1 s.2.2.2 ∧ ((s.2.1 = 1 ∧ lkC n s.2.2.2 < lkC n g) ∨ (s.2.1 = 0 ∧ s.2.2.2 = g ∧ lkD h n nw (i + 1) s.2.2.2))) (fun r => lkI h g1 n nw ow r.1 r.2.2 ∧ ((r.2.1 = 1 ∧ lkC n r.2.2 < lkC n g) ∨ (r.2.1 = 0 ∧ lkD h n nw n r.2.2)))) := by
          intro v hv
          subst hv
          simp (disch := omega) only [q_188_140, u_ix, u_cl, w_gd, w_let]
          refine ok_some ⟨u_S i, hstp.1, Or.inl ⟨rfl, ?_⟩⟩
          dsimp only
          have h2 := hstp.2
          rcases hD with hD | ⟨-, b, -⟩
          · exact Nat.lt_trans h2 hD.2
          · rw [← b]; exact h2
        rw [m_188c h16 k0 hi (fun j hj => by rw [hf 1120 (by decide)]; exact (hL i hi j hj).1) _ 0]
        simp only [Option.bind_some]
        have hB : anyb (fun j => ndc h n nw i j && !decide (k 1122 j ≤ 1)) n = true ↔ ∃ j, j < n ∧ ndc h n nw i j = true ∧ 2 ≤ k 1122 j := by
          rw [anyb_iff]
          constructor
          · rintro ⟨j, a, b⟩
            simp only [Bool.and_eq_true, Bool.not_eq_true', decide_eq_false_iff_not] at b
            exact ⟨j, a, b.1, by have := b.2; grind⟩
          · rintro ⟨j, a, b, d⟩
            refine ⟨j, a, ?_⟩
            simp only [Bool.and_eq_true, Bool.not_eq_true', decide_eq_false_iff_not]
            exact ⟨b, by grind⟩
        have hS : anyb (fun j => ndc h n nw i j && decide (k 1122 j = 1)) n = true ↔ ∃ j, j < n ∧ ndc h n nw i j = true ∧ k 1122 j = 1 := by
          rw [anyb_iff]; simp only [Bool.and_eq_true, decide_eq_true_eq]
        cases c1 : anyb (fun j => ndc h n nw i j && !decide (k 1122 j ≤ 1)) n with
        | true =>
          refine ok_F (by decide) (fin 3 ?_)
          unfold stp; rw [if_neg hnr.1, if_neg hnr.2, if_pos (hB.mp c1)]
        | false =>
          have c1' : ¬ ∃ j, j < n ∧ ndc h n nw i j = true ∧ 2 ≤ k 1122 j := fun e => by rw [hB.mpr e] at c1; cases c1
          refine ok_T (by decide) ?_
          cases c2 : anyb (fun j => ndc h n nw i j && decide (k 1122 j = 1)) n with
          | true =>
            refine ok_F (by decide) (fin 1 ?_)
            unfold stp; rw [if_neg hnr.1, if_neg hnr.2, if_neg c1', if_pos (hS.mp c2)]
          | false =>
            have c2' : ¬ ∃ j, j < n ∧ ndc h n nw i j = true ∧ k 1122 j = 1 := fun e => by rw [hS.mpr e] at c2; cases c2
            refine ok_T (by decide) (ok_bE (hown k i hf hi) (fin _ ?_))
            unfold stp; rw [if_neg hnr.1, if_neg hnr.2, if_neg c1', if_neg c2']
      · refine ok_F hc (stay (fun _ => ?_))
        have : anyb (fun j => ndc h n nw i j && !bt y j) 32 = true := by
          cases hh : anyb (fun j => ndc h n nw i j && !bt y j) 32 with
          | true => rfl
          | false => exact absurd (hz.mpr (by rw [hh]; decide)) hc
        obtain ⟨j, hj, hjb⟩ := (anyb_iff 32).mp this
        simp only [Bool.and_eq_true, Bool.not_eq_true'] at hjb
        have hjn := ndc_lt h16 hjb.1
        refine ⟨j, hjn, hjb.1, ?_⟩
        have := hK.2.1 j hj
        rw [hjb.2] at this
        by_cases e : k 1122 j = -1
        · exact e
        · simp [hjn, e] at this
    · exact ok_F hu (stay (fun e => absurd e hu))
  · rintro ⟨y, z, i', k⟩ ⟨e, hK, hD⟩
    simp only at e hK hD
    subst e
    have k0 : k 1076 2 = Int32.ofNat n := by rw [hK.1 1076 (by decide)]; exact H.2.2.1
    simp only [l_188_51]
    refine ok_F (by rw [k0, u_lt (by omega) (by omega)]; omega) (ok_some ⟨hK, ?_⟩)
    rcases hD with hD | ⟨a, b, d⟩
    · exact Or.inl hD
    · exact Or.inr ⟨a, d⟩
theorem lk_all {g1 g : Hp} {ow : Nat → Int32} {x : Int32} (hI : lkI h g1 n nw ow x g) (hD : lkD h n nw n g) : ∀ c, c < n → ¬ g 1122 c = -1 := by
  have key : ∀ M c, mu n (ndc h n nw) c ≤ M → c < n → ¬ g 1122 c = -1 := by
    intro M
    induction M with
    | zero =>
      intro c hM hc hu
      obtain ⟨j, hj, hnj, -⟩ := hD c hc hu
      have h0 := cnt_0 (f := cl (ndc h n nw) n c) n (by unfold mu at hM; omega) j hj
      rw [cl_of hnj] at h0; cases h0
    | succ M ih =>
      intro c hM hc hu
      obtain ⟨j, hj, hnj, hju⟩ := hD c hc hu
      have hr := hI.2.2.1 j hj hju
      exact ih j (by have := mu_lt hj hnj hr.2; omega) hj hju
  intro c hc
  exact key _ c (Nat.le_refl _) hc
theorem m_188 (H : MW h m n nw) {ow : Nat → Int32} (how : ∀ c, c < n → 0 ≤ ow c) (hown : ∀ g c, w_fr lkP m g → LK h g n nw → c < n → p_187 g (Int32.ofNat c) = some (ow c)) : ok (p_188 m) (fun g => w_fr lkP m g ∧ LK h g n nw ∧ isSt n (ndc h n nw) (twh h n nw 26) ow (g 1122)) := by
  have h16 := H.1
  unfold p_188
  refine ok_bind (m_185 H) ?_
  rintro g1 ⟨f1, hL⟩
  have H1 : MW h g1 n nw := MW_lk H (w_fr_mono f1 (fun q hq => by unfold lkP; omega))
  have f1' : w_fr lkP m g1 := w_fr_mono f1 (fun q hq => by unfold lkP; omega)
  have hown1 : ∀ g c, w_fr (fun q => q = 1122) g1 g → c < n → p_187 g (Int32.ofNat c) = some (ow c) := by
    intro g c hf hc
    exact hown g c (w_fr_trans f1' (w_fr_mono hf (fun q hq => by unfold lkP; omega))) (LK_fr hL (hf 1120 (by decide)) (hf 1121 (by decide))) hc
  refine ok_bind (m_188a H1 hL) ?_
  rintro ⟨x, g2⟩ ⟨f2, hx, hs⟩
  simp only at f2 hx hs
  have h2 : ∀ c, c < n → (g2 1122 c = -1 ↔ ¬ twh h n nw 26 c = true ∧ ¬ cl (ndc h n nw) n c c = true) := by
    intro c hc
    rw [hs c hc]
    by_cases ht : twh h n nw 26 c = true
    · simp [ht]
    · by_cases hr : cl (ndc h n nw) n c c = true
      · simp [ht, hr]
      · simp [ht, hr]
  have hI : lkI h g1 n nw ow x g2 := by
    refine ⟨f2, fun j hj => ?_, fun c hc h3 => (h2 c hc).mp h3, fun c hc h3 => ?_⟩
    · rw [hx j hj]
      by_cases hjn : j < n
      · have := h2 j hjn
        cases ht : twh h n nw 26 j <;> cases hr : cl (ndc h n nw) n j j <;> simp [hjn, this, ht, hr]
      · simp [hjn]
    · have hor : ¬ (¬ twh h n nw 26 c = true ∧ ¬ cl (ndc h n nw) n c c = true) := fun e => h3 ((h2 c hc).mpr e)
      refine ⟨?_, fun ht hr => absurd ⟨ht, hr⟩ hor⟩
      rw [hs c hc]; unfold stp
      by_cases ht : twh h n nw 26 c = true
      · rw [if_pos ht, if_pos ht]
      · by_cases hr : cl (ndc h n nw) n c c = true
        · rw [if_neg ht, if_neg ht, if_pos hr, if_pos hr]
        · exact absurd ⟨ht, hr⟩ hor
  refine ok_wh (fun M s => lkI h g1 n nw ow s.1 s.2.2 ∧ ((s.2.1 = 0 ∧ M = 0 ∧ lkD h n nw n s.2.2) ∨ (s.2.1 = 1 ∧ M = lkC n s.2.2 + 1))) ?_ (lkC n g2 + 1) (x, 1, g2) w_N ⟨hI, Or.inr ⟨rfl, rfl⟩⟩ (by have := cnt_le (fun j => decide (g2 1122 j = -1)) n; unfold lkC w_N; omega)
  rintro M ⟨y, z, g⟩ ⟨hK, hor⟩
  simp only at hK hor
  simp only [l_188_45]
  rcases hor with ⟨e, -, hD⟩ | ⟨e, hM⟩
  · subst e
    refine ok_T rfl (ok_some ⟨w_fr_trans f1' (w_fr_mono hK.1 (fun q hq => by unfold lkP; omega)), LK_fr hL (hK.1 1120 (by decide)) (hK.1 1121 (by decide)), ?_⟩)
    intro c hc
    exact (hK.2.2.2 c hc (lk_all hK hD c hc)).1
  · subst e
    refine ok_F (by decide) ?_
    refine ok_bind (m_188p H1 hL how hown1 hK) ?_
    rintro ⟨y', z', g'⟩ ⟨hK', hor'⟩
    simp only at hK' hor'
    rcases hor' with ⟨e', hl⟩ | ⟨e', hD⟩
    · exact ok_some ⟨lkC n g' + 1, by omega, hK', Or.inr ⟨e', rfl⟩⟩
    · exact ok_some ⟨0, by omega, hK', Or.inl ⟨e', rfl, hD⟩⟩
end M40
