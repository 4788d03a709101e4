/-! ===== what is gathered is what is fetched ===== -/
section S9p
variable {h h' m m' : Hp} {n nw c : Nat} {V : Nat → Nat → Option VL} {us : Int32}
theorem rgv_form (h16 : n ≤ 16) {x : Nat} : rgv h n nw c x = -1 ∨ rgv h n nw c x = -2 ∨ ∃ i, i < 20 ∧ rgv h n nw c x = Int32.ofNat i := by
  unfold rgv
  cases hg : gch h n c x with
  | some k => exact Or.inr (Or.inr ⟨k, by have := (lst_lt 16 hg).1; omega, rfl⟩)
  | none =>
    simp only
    by_cases h0 : cnt (dfh h n nw x) 32 = 0
    · rw [if_pos h0]; exact Or.inl rfl
    · rw [if_neg h0]
      by_cases h2 : 2 ≤ cnt (dfh h n nw x) 32
      · rw [if_pos h2]; exact Or.inr (Or.inl rfl)
      · rw [if_neg h2]
        cases hl : lst (dfh h n nw x) 20 with
        | none => exact Or.inl rfl
        | some i => exact Or.inr (Or.inr ⟨i, (lst_lt 20 hl).1, rfl⟩)
/-- fetching, of all letters; of those used it gives what the class gathers -/
theorem m_FH {how : Int32} {q : Nat} (H : MW h m n nw) (hc : c < n) (hq : (how = 2 ∧ q = 1123) ∨ (¬ how = 2 ∧ q = 1093)) (hV : vld m q) (hns : nsv h n nw c us) (hsh : ∀ w, w < nw → h 8 w = m 1115 w) (hcp : ∀ x, x < 26 → bt us x = true → ∀ j, j < 16 → gvr h n nw c x = some j → mv m q (234 * j + 9 * x) (V j x)) : ∃ fe : Nat → Option VL, FH c how fe m ∧ ∀ x, x < 26 → bt us x = true → egt V h n nw c us x = fe x := by
  have h16 := H.1; have h4 := H.2.1
  have hc16 : c < 16 := by omega
  have spec : ∀ x, ∃ v : Option VL, x < 26 → (rgv h n nw c x = -1 ∨ rgv h n nw c x = -2 ∨ rgv h n nw c x = Int32.ofNat c → v = none) ∧ (∀ i, i < 16 → rgv h n nw c x = Int32.ofNat i → i ≠ c → mv m q (234 * i + 9 * x) v) ∧ ∀ w, w < 4 → rgv h n nw c x = Int32.ofNat (16 + w) → v = some (.inl (m 1115 w)) := by
    intro x
    by_cases hx : x < 26
    · generalize hm1 : w_up m 1076 29 how = m1
      have m1q : ∀ z, z ≠ 1076 → m1 z = m z := fun z hz => by rw [← hm1]; exact funext fun b => w_up_q hz
      have m1b : ∀ b, b ≠ 29 → m1 1076 b = m 1076 b := fun b hb => by rw [← hm1]; exact w_up_b hb
      have H1 : MW h m1 n nw := MW_fr H (m1b 2 (by decide)) (m1b 48 (by decide)) (m1q _ (by decide)) (m1q _ (by decide)) (m1q _ (by decide)) (m1q _ (by decide))
      have k29 : m1 1076 29 = how := by rw [← hm1]; exact w_up_at
      have hqn : q ≠ 1076 := by rcases hq with ⟨-, rfl⟩ | ⟨-, rfl⟩ <;> decide
      obtain ⟨v, -, s1, s2, s3⟩ := m_194r (m := m1) (c := c) (x := x) (q := q) hc16 hx (m_182r H1 hc hx) (rgv_form h16) (by rw [k29]; exact hq) (fun j y h1 h2 => by
        obtain ⟨v, hv⟩ := hV j y h1 h2
        exact ⟨v, mv_fr hv (fun b _ _ => by rw [m1q q hqn])⟩)
      refine ⟨v, fun _ => ⟨s1, fun i h1 h2 h3 => mv_fr (s2 i h1 h2 h3) (fun b _ _ => by rw [m1q q hqn]), fun w h1 h2 => ?_⟩⟩
      rw [s3 w h1 h2, m1q 1115 (by decide)]
    · exact ⟨none, fun h => absurd h hx⟩
  refine ⟨fun x => Classical.choose (spec x), ?_, fun x hx hu => ?_⟩
  · intro g g1 g2 g3 g4 g5 g6 g7 g8 g9 g10 x hx
    have Hg : MW h g n nw := MW_fr H g1 g2 g4 g5 g6 g7
    obtain ⟨s1, s2, s3⟩ := Classical.choose_spec (spec x) hx
    have gq : g q = m q := by rcases hq with ⟨-, rfl⟩ | ⟨-, rfl⟩ <;> assumption
    obtain ⟨v, ⟨g', t1, t2, t3⟩, u1, u2, u3⟩ := m_194r (m := g) (c := c) (x := x) (q := q) hc16 hx (m_182r Hg hc hx) (rgv_form h16) (by rw [g3]; exact hq) (fun j y h1 h2 => by
      obtain ⟨v, hv⟩ := hV j y h1 h2
      exact ⟨v, mv_fr hv (fun b _ _ => by rw [gq])⟩)
    have ev : v = Classical.choose (spec x) := by
      by_cases hno : rgv h n nw c x = -1 ∨ rgv h n nw c x = -2 ∨ rgv h n nw c x = Int32.ofNat c
      · rw [u1 hno, s1 hno]
      · obtain ⟨i, hi, hr⟩ : ∃ i, i < 20 ∧ rgv h n nw c x = Int32.ofNat i := (rgv_form (h := h) (n := n) (nw := nw) (c := c) (x := x) h16).elim (fun h => absurd (Or.inl h) hno) (fun h => h.elim (fun h => absurd (Or.inr (Or.inl h)) hno) id)
        have hic : i ≠ c := fun h => hno (Or.inr (Or.inr (by rw [hr, h])))
        by_cases h16' : i < 16
        · have a1 := u2 i h16' hr hic
          have a2 := s2 i h16' hr hic
          exact mv_inj (mv_fr a1 (fun b _ _ => by rw [gq])) a2
        · have e : i = 16 + (i - 16) := by omega
          rw [e] at hr
          rw [u3 (i - 16) (by omega) hr, s3 (i - 16) (by omega) hr, g8]
    dsimp only
    rw [← ev]
    exact ⟨g', t1, t2, t3⟩
  · obtain ⟨s1, s2, s3⟩ := Classical.choose_spec (spec x) hx
    show egt V h n nw c us x = Classical.choose (spec x)
    unfold egt
    rw [if_pos ⟨hx, hu⟩]
    rcases rgv_gvr h16 h4 hc (hns x hx hu) with ⟨e1, e2⟩ | ⟨j, e1, e2, e3, e4⟩
    · rw [e1, s1 (e2.elim Or.inl (fun h => Or.inr (Or.inr h)))]
    · rw [e1]
      simp only
      by_cases hj : j < 16
      · rw [if_pos hj]
        exact mv_inj (hcp x hx hu j hj e1) (s2 j hj e2 e3)
      · rw [if_neg hj]
        have e4' : 16 ≤ j ∧ j < 16 + nw := e4.elim (fun h => by omega) id
        have e : j = 16 + (j - 16) := by omega
        rw [e] at e2
        rw [s3 (j - 16) (by omega) e2, hsh (j - 16) (by omega)]
/-- the class gathers -/
theorem c_141 {x2 : Int32} {o : Nat} (h16 : n ≤ 16) (h4 : nw ≤ 4) (hn : h 0 10 = Int32.ofNat n) (hw : h 4 7 = Int32.ofNat nw) (hW : ∀ x, x < 26 → (∀ j, bt (h 12 x) j = dfh h n nw x j) ∧ (∀ j, bt (h 13 x) j = chh h n x j)) (hc : c < n) (hus : h (64 * c + 55) 7 = us) (ho : (x2 = 0 ∧ o = 59) ∨ (¬ x2 = 0 ∧ o = 62)) (hns : nsv h n nw c us) (hcp : ∀ x, x < 26 → bt us x = true → ∀ j, j < 16 → gvr h n nw c x = some j → cv h (64 * j + o) x (V j x)) : ∃ h', p_141 h (Int32.ofNat c) x2 = some h' ∧ (∀ i, i < 27 → cv h' 45 i (egt V h n nw c us i)) ∧ w_fr (fun q => q = 46 ∨ q = 47) h h' := by
  obtain ⟨h1, a1, a2, a3⟩ := c_67 (h := h) (q := 45)
  have lp : ok (w_lp (fun (s : Int32 × Hp) => l_141_12 (Int32.ofNat c) x2 us s.1 s.2) w_N (0, h1)) (fun r => (∀ i, i < 27 → cv r 45 i (egt V h n nw c us i)) ∧ w_fr (fun q => q = 46 ∨ q = 47) h r) := by
    refine ok_for (fun i s => s.1 = Int32.ofNat i ∧ (∀ j, j < 27 → cv s.2 45 j (if j < i then egt V h n nw c us j else none)) ∧ w_fr (fun q => q = 46 ∨ q = 47) h s.2) 26 ⟨rfl, fun j hj => by rw [if_neg (by omega)]; exact a2 j hj, w_fr_mono a3 (fun q hq => Or.inl hq)⟩ (by decide) ?_ ?_
    · rintro i ⟨t, g⟩ hi ⟨e1, hv, hf⟩
      simp only at e1 hv hf
      subst e1
      have hlt : Int32.ofNat i < 26 := (u_ltL (by omega) (by decide)).mpr hi
      have gn : g 0 10 = Int32.ofNat n := by rw [hf 0 (by decide)]; exact hn
      show ok (l_141_12 (Int32.ofNat c) x2 us (Int32.ofNat i) g) _
      unfold l_141_12
      rw [if_pos hlt]
      have skip : egt V h n nw c us i = none → ok (some (.inl (Int32.ofNat (i + 1), g)) : Option ((Int32 × Hp) ⊕ Hp)) (Sum.elim (fun s => s.1 = Int32.ofNat (i + 1) ∧ (∀ j, j < 27 → cv s.2 45 j (if j < i + 1 then egt V h n nw c us j else none)) ∧ w_fr (fun q => q = 46 ∨ q = 47) h s.2) (fun r => (∀ i, i < 27 → cv r 45 i (egt V h n nw c us i)) ∧ w_fr (fun q => q = 46 ∨ q = 47) h r)) := by
        intro hno
        refine ok_some ⟨rfl, fun j hj => ?_, hf⟩
        have := hv j hj
        by_cases ej : j = i
        · subst ej
          rw [if_neg (by omega)] at this
          rw [if_pos (by omega), hno]; exact this
        · have e6 : (j < i) ↔ (j < i + 1) := by omega
          simp only [e6] at this
          exact this
      have take : ∀ g2, cv g2 45 i (egt V h n nw c us i) → vfr 45 i g g2 → ok (some (.inl (Int32.ofNat (i + 1), g2)) : Option ((Int32 × Hp) ⊕ Hp)) (Sum.elim (fun s => s.1 = Int32.ofNat (i + 1) ∧ (∀ j, j < 27 → cv s.2 45 j (if j < i + 1 then egt V h n nw c us j else none)) ∧ w_fr (fun q => q = 46 ∨ q = 47) h s.2) (fun r => (∀ i, i < 27 → cv r 45 i (egt V h n nw c us i)) ∧ w_fr (fun q => q = 46 ∨ q = 47) h r)) := by
        intro g2 b2 b3
        refine ok_some ⟨rfl, fun j hj => ?_, w_fr_trans hf b3.1⟩
        by_cases ej : j = i
        · subst ej; rw [if_pos (by omega)]; exact b2
        · have := cv_vfr (hv j hj) b3 ej
          have e6 : (j < i) ↔ (j < i + 1) := by omega
          simp only [e6] at this
          exact this
      have neg1 : q_141_27 g (Int32.ofNat c) x2 us (Int32.ofNat i) (-1) = some (.inl (Int32.ofNat (i + 1), g)) := by
        unfold q_141_27 v_125
        rw [if_pos (show (if (-1 : Int32) < 0 then 0 else (if (-1 : Int32) < g 0 10 then 1 else 0 : Int32) : Int32) = 0 by rw [if_pos (by decide)]), if_pos rfl, u_S]
      by_cases hu : bt us i = true
      · rw [if_neg (fun h => (v126_ne (by omega)).mp h hu)]
        obtain ⟨r, hr, hrb⟩ := s_81 (h := g) (c := c) (x := i) (df := dfh h n nw i) (ch := chh h n i) (by omega) hi (fun j => by rw [hf 12 (by decide)]; exact (hW i hi).1 j) (fun j => by rw [hf 13 (by decide)]; exact (hW i hi).2 j) (fun j hj => chh_lt h16 hj)
        have eG : lst (bt r) 20 = gvr h n nw c i := lst_congr 20 (fun j hj => hrb j (by omega))
        refine ok_bE hr (ok_bE (s_127 (h := g) (x := r)) ?_)
        rw [eG]
        rcases rgv_gvr h16 h4 hc (hns i hi hu) with ⟨g1, -⟩ | ⟨j, g1, -, g3, g4⟩
        · rw [g1]
          show ok (q_141_27 g (Int32.ofNat c) x2 us (Int32.ofNat i) (-1)) _
          rw [neg1]
          refine skip ?_
          unfold egt
          rw [if_pos ⟨hi, hu⟩, g1]
        · rw [g1]
          show ok (q_141_27 g (Int32.ofNat c) x2 us (Int32.ofNat i) (Int32.ofNat j)) _
          unfold q_141_27 v_125
          rw [gn, if_neg (u_lt0 (by omega))]
          rcases g4 with g4 | g4
          · have hjn : Int32.ofNat j < Int32.ofNat n := (u_lt (by omega) (by omega)).mpr g4
            rw [if_pos hjn, if_neg (by decide), u_ix (by omega) (by decide), u_cl (by omega)]
            simp only [w_gd]
            have hvj := hcp i hi hu j (by omega) g1
            have eg : egt V h n nw c us i = V j i := by
              unfold egt
              rw [if_pos ⟨hi, hu⟩, g1]
              simp only
              rw [if_pos (by omega)]
            have done : ok (q_141_48 g (Int32.ofNat c) x2 us (Int32.ofNat i) (64 * j + o) (Int32.ofNat i)) (Sum.elim (fun s => s.1 = Int32.ofNat (i + 1) ∧ (∀ j, j < 27 → cv s.2 45 j (if j < i + 1 then egt V h n nw c us j else none)) ∧ w_fr (fun q => q = 46 ∨ q = 47) h s.2) (fun r => (∀ i, i < 27 → cv r 45 i (egt V h n nw c us i)) ∧ w_fr (fun q => q = 46 ∨ q = 47) h r)) := by
              have ho2 : o = 59 ∨ o = 62 := ho.elim (fun h => Or.inl h.2) (fun h => Or.inr h.2)
              obtain ⟨g2, b1, b2, b3⟩ := c_71 (h := g) (q := 45) (i := i) (q2 := 64 * j + o) (j := i) (v := V j i) (by omega) (by omega) (cv_fr hvj (hf _ (by omega)) (hf _ (by omega))) (by omega) (fun h => by omega)
              unfold q_141_48
              rw [b1]
              simp only [Option.bind_some, u_S]
              exact take g2 (by rw [eg]; exact b2) b3
            rcases ho with ⟨hx2, ho⟩ | ⟨hx2, ho⟩
            · rw [if_pos hx2, ← ho]; exact done
            · rw [if_neg hx2, ← ho]; exact done
          · have hjn : ¬ Int32.ofNat j < Int32.ofNat n := fun hh => by
              have := (u_lt (by omega) (by omega)).mp hh
              omega
            have hm1 : ¬ Int32.ofNat j = -1 := u_m1 (by omega)
            have es : Int32.ofNat j - 16 = Int32.ofNat (j - 16) := u_subL (a := j) (n := 16) (by omega)
            obtain ⟨d1, d2⟩ := s_93 (h := g) (nw := nw) (w := j - 16) (by rw [hf 4 (by decide)]; exact hw) h4 (by omega)
            rw [if_neg hjn, if_pos rfl, if_neg hm1, es, d2, d1]
            simp only [w_gd]
            obtain ⟨g2, b1, b2, b3⟩ := c_68 (h := g) (q := 45) (i := i) (n := shv g nw (j - 16)) (by omega)
            rw [b1]
            simp only [Option.bind_some, u_S]
            refine take g2 ?_ b3
            have eg : egt V h n nw c us i = some (.inl (shv g nw (j - 16))) := by
              unfold egt shv
              rw [if_pos ⟨hi, hu⟩, g1]
              simp only
              rw [if_neg (by omega), if_pos (by omega), hf 8 (by decide)]
            rw [eg]; exact b2
      · rw [if_pos ((v126_ne (by omega)).mpr hu), neg1]
        refine skip ?_
        unfold egt
        rw [if_neg (fun h => hu h.2)]
    · rintro ⟨t, g⟩ ⟨e1, hv, hf⟩
      simp only at e1 hv hf
      subst e1
      show ok (l_141_12 (Int32.ofNat c) x2 us (Int32.ofNat 26) g) _
      unfold l_141_12
      rw [if_neg (show ¬ Int32.ofNat 26 < 26 by decide)]
      refine ok_some ⟨fun j hj => ?_, hf⟩
      have := hv j hj
      by_cases h26 : j < 26
      · rw [if_pos h26] at this; exact this
      · rw [if_neg h26] at this
        have : egt V h n nw c us j = none := by unfold egt; rw [if_neg (fun h => h26 h.1)]
        rw [this]; assumption
  obtain ⟨g, l1, l2, l3⟩ := lp
  refine ⟨g, ?_, l2, l3⟩
  unfold p_141
  rw [u_ix (by omega) (by decide), u_cl (by omega), hus]
  simp only [w_gd]
  rw [a1]
  simp only [Option.bind_some]
  exact l1
end S9p
