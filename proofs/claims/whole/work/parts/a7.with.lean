/-! ===== a cell is run with all that it needs ===== -/
section SA7
variable {h h' h1 m m' m1 : Hp} {n nw k B c : Nat} {T : List Int32} {lang us x : Int32} {s : Nat → Int32}
theorem own_4 : own h n nw c = 0 ∨ own h n nw c = 1 ∨ own h n nw c = 2 := by
  unfold own
  split
  · exact Or.inr (Or.inl rfl)
  split
  · split
    · exact Or.inl rfl
    · exact Or.inr (Or.inr rfl)
  · exact Or.inr (Or.inl rfl)
/-- of what is needed, directly or over others, and STALE, one is ready -/
theorem ready_ex {nd : Nat → Nat → Bool} {tw : Nat → Bool} {ow : Nat → Int32} {a : Nat → Bool} (ho : ∀ c, ow c = 0 ∨ ow c = 1 ∨ 2 ≤ ow c) (hs : isSt n nd tw ow s) (hc : c < n) (hr : ¬ cl nd n c c = true) (ha : ∀ j, j < n → cl nd n c j = true → j ≠ c → a j = true) {j : Nat} (hj : j < n) (hnd : cl nd n c j = true) (h1 : s j = 1) : ¬ fst1 (nxr n nd s a) n = none := by
  have key : ∀ d j, mu n nd j ≤ d → j < n → cl nd n c j = true → s j = 1 → ∃ i, i < n ∧ nxr n nd s a i = true := by
    intro d
    induction d with
    | zero =>
      intro j hd hj hcl h1
      refine ⟨j, hj, ?_⟩
      have hjc : j ≠ c := fun e => by subst e; exact hr hcl
      unfold nxr rdy
      rw [ha j hj hcl hjc, h1]
      have : anyb (fun k => nd j k && !decide (s k = 0)) n = false := by
        cases hb : anyb (fun k => nd j k && !decide (s k = 0)) n with
        | false => rfl
        | true =>
          obtain ⟨i, hi, hb2⟩ := (anyb_iff n).mp hb
          rw [Bool.and_eq_true] at hb2
          have h0 := cnt_0 (f := cl nd n j) n (by unfold mu at hd; omega) i hi
          rw [cl_of hb2.1] at h0; cases h0
      rw [this]; rfl
    | succ d ih =>
      intro j hd hj hcl h1
      by_cases hrd : rdy n nd s j = true
      · refine ⟨j, hj, ?_⟩
        have hjc : j ≠ c := fun e => by subst e; exact hr hcl
        unfold nxr
        rw [ha j hj hcl hjc, h1, hrd]; rfl
      · unfold rdy at hrd
        have hb : anyb (fun k => nd j k && !decide (s k = 0)) n = true := by
          cases hb : anyb (fun k => nd j k && !decide (s k = 0)) n with
          | true => rfl
          | false => rw [hb] at hrd; exact absurd rfl hrd
        obtain ⟨i, hi, hb2⟩ := (anyb_iff n).mp hb
        rw [Bool.and_eq_true, Bool.not_eq_true', decide_eq_false_iff_not] at hb2
        have e := hs j hj
        rw [h1] at e
        unfold stp at e
        split at e
        · exact absurd e (by decide)
        split at e
        · exact absurd e (by decide)
        split at e
        · exact absurd e (by decide)
        rename_i n3
        have hi1 : s i = 1 := by
          rcases st_3 ho hs i hi with h | h | h
          · exact absurd h hb2.2
          · exact h
          · exact absurd ⟨i, hi, hb2.1, h⟩ n3
        have hti : ¬ tw i = true := fun ht => by rw [st_T hs hi ht] at hi1; exact absurd hi1 (by decide)
        have hri : ¬ cl nd n i i = true := fun hrr => by rw [st_R hs hi hti hrr] at hi1; exact absurd hi1 (by decide)
        exact ih i (by have := mu_lt hi hb2.1 hri; omega) hi (cl_trans n c j i hj hcl (cl_of hb2.1)) hi1
  obtain ⟨i, hi, hi2⟩ := key _ j (Nat.le_refl _) hj hnd h1
  intro hn
  rw [fst1_none n hn i hi] at hi2
  cases hi2
theorem st_low (J : JOK h n nw) (hs : isSt n (ndc h n nw) (twh h n nw 26) (own h n nw) s) (hc : c < n) (h3 : s c < 3) : ¬ twh h n nw 26 c = true ∧ ¬ cl (ndc h n nw) n c c = true := by
  have ht : ¬ twh h n nw 26 c = true := fun ht => by rw [st_T hs hc ht] at h3; exact absurd h3 (by decide)
  exact ⟨ht, fun hr => by rw [st_R hs hc ht hr] at h3; exact absurd h3 (by decide)⟩
theorem e131 (hc : c < 16) {g : Hp} (hp : p_132 h = some g) : p_131 h (Int32.ofNat c) = some (g 3 c, g) := by
  unfold p_131
  rw [hp]
  simp only [Option.bind_some]
  rw [u_ix hc (by decide), u_cl (by omega)]
  rfl
theorem with_both (H : CP h m n nw k B) (hs : isSt n (ndc h n nw) (twh h n nw 26) (own h n nw) s) (hc : c < n) (h3 : s c < 3) (hB : k + 17 ≤ B) : ∃ r h' m' k', p_138 h (Int32.ofNat c) = some (r, h') ∧ p_225 m (Int32.ofNat c) = some (r, m') ∧ CP h' m' n nw k' B ∧ k' ≤ k + 17 ∧ RN n nw h m h' m' := by
  have h16 := H.2.1.1
  have c16 : c < 16 := by omega
  obtain ⟨ht, hr⟩ := st_low H.2.1 hs hc h3
  obtain ⟨m1, q1, f1, L1, s1, H1⟩ := cp_looks H
  have ex : m1 1121 c = h 15 c := (lk_eq H1.2.1 L1 hc).2
  generalize hx : ((h 15 c) &&& ((1 <<< (Int32.ofNat c &&& 31)) ^^^ (-1)) : Int32) = x
  have bx : ∀ j, j < 32 → bt x j = (cl (ndc h n nw) n c j && !decide (j = c)) := fun j hj => by
    rw [← hx, bt_and, bt_not hj, bt_one (by omega), (H.2.1.2.2.2.2.2.2.2.1 c hc).2 j hj]
  obtain ⟨h2, m2, k2, z1, z2, H2, z4, L2, s2, z7, R2⟩ := all_both x H1 (by omega)
  have end2 := RN_ndc R2
  have etw2 := R2.2.2.2.2
  obtain ⟨h4, p4, f4, s4, H4⟩ := cp_judge H2
  have same : ∀ j, j < n → h4 3 j = m2 1122 j := fun j hj => st_unique s4 s2 j hj
  have R4 : RN n nw h2 m2 h4 m2 := RN_st f4
  have e138 : p_138 h (Int32.ofNat c) = if h4 3 c = 3 then some ((-1), h4) else (p_139 h4 (Int32.ofNat c) 0).bind fun vz5 => some (vz5.1, vz5.2) := by
    unfold p_138
    rw [u_ix c16 (by decide), u_cl (by omega)]
    simp only [w_gd]
    rw [hx, z1]
    simp only [Option.bind_some]
    rw [e131 c16 p4]
    simp only [Option.bind_some]
  have e189 := m_189 (g := m2) (x := m2 1120 c) (s := m2 1122) (f := ndc h2 n nw c) h16 H2.2.2.1.2.2.1 (fun j hj => lk_lt H2.2.1 L2 hc j hj) (fun _ _ => rfl)
  have e225 : p_225 m (Int32.ofNat c) = if rdy n (ndc h2 n nw) (m2 1122) c = true then (p_224 m2 (Int32.ofNat c)).bind fun vz7 => some (vz7.1, vz7.2) else some ((-1), m2) := by
    unfold p_225
    rw [q1]
    simp only [Option.bind_some]
    rw [u_ix c16 (by decide), u_cl (by omega)]
    simp only [w_gd]
    rw [ex, hx, z2]
    simp only [Option.bind_some]
    rw [e189]
    simp only [Option.bind_some]
    show (if ofB (rdy n (ndc h2 n nw) (m2 1122) c) = 0 then _ else _) = _
    cases rdy n (ndc h2 n nw) (m2 1122) c with
    | true => rw [if_neg (by decide), if_pos rfl]
    | false => rw [if_pos (show ofB false = 0 from rfl), if_neg (by decide)]
  have ht2 : ¬ twh h2 n nw 26 c = true := by rw [etw2]; exact ht
  have hr2 : ¬ cl (ndc h2 n nw) n c c = true := by rw [end2]; exact hr
  have hsc := s2 c hc
  unfold stp at hsc
  rw [if_neg ht2, if_neg hr2] at hsc
  by_cases ha : ∃ j, j < n ∧ ndc h2 n nw c j = true ∧ 2 ≤ m2 1122 j
  · rw [if_pos ha] at hsc
    have hrd : ¬ rdy n (ndc h2 n nw) (m2 1122) c = true := by
      obtain ⟨j, a, b, d⟩ := ha
      unfold rdy
      have : anyb (fun k => ndc h2 n nw c k && !decide (m2 1122 k = 0)) n = true := (anyb_iff n).mpr ⟨j, a, by rw [b, decide_eq_false (fun e => by rw [e] at d; exact absurd d (by decide))]; rfl⟩
      rw [this]; decide
    rw [if_pos ((same c hc).trans hsc)] at e138
    rw [if_neg hrd] at e225
    exact ⟨-1, h4, m2, k2, e138, e225, H4, by omega, RN_trans (RN_lk f1) (RN_trans R2 R4)⟩
  · have hz : ∀ j, j < n → ndc h2 n nw c j = true → m2 1122 j = 0 := by
      intro j a b
      rcases st_3 (fun c => own_3) s2 j a with h | h | h
      · exact h
      · exfalso
        refine ready_ex (a := bt x) (fun c => own_3) s2 hc hr2 (fun i hi hcl hne => ?_) a (cl_of b) h z7
        rw [end2] at hcl
        rw [bx i (by omega), hcl, decide_eq_false hne]; rfl
      · exact absurd ⟨j, a, b, h⟩ ha
    have hb : ¬ ∃ j, j < n ∧ ndc h2 n nw c j = true ∧ m2 1122 j = 1 := fun ⟨j, a, b, d⟩ => by rw [hz j a b] at d; exact absurd d (by decide)
    rw [if_neg ha, if_neg hb] at hsc
    have hrd : rdy n (ndc h2 n nw) (m2 1122) c = true := by
      unfold rdy
      have : anyb (fun k => ndc h2 n nw c k && !decide (m2 1122 k = 0)) n = false := by
        cases hb : anyb (fun k => ndc h2 n nw c k && !decide (m2 1122 k = 0)) n with
        | false => rfl
        | true =>
          obtain ⟨i, hi, hb2⟩ := (anyb_iff n).mp hb
          rw [Bool.and_eq_true] at hb2
          have e0 := hb2.2
          rw [hz i hi hb2.1] at e0
          exact absurd e0 (by decide)
      rw [this]; rfl
    have n3 : ¬ h4 3 c = 3 := by
      rw [same c hc, hsc]
      rcases own_4 (h := h2) (n := n) (nw := nw) (c := c) with h | h | h <;> rw [h] <;> decide
    rw [if_neg n3] at e138
    rw [if_pos hrd] at e225
    have end4 := RN_ndc R4
    obtain ⟨r, h', m', w1, w2, w3, T, lang, R⟩ := does0 H4 (LK_h L2 R4.2.2.2.1) (s := m2 1122) (by rw [end4, R4.2.2.2.2, own_st f4]; exact s2) hc (by rw [R4.2.2.2.2]; exact ht2) (by rw [end4]; exact hz) (by omega)
    refine ⟨r, h', m', k2 + 1, by rw [e138, w1]; rfl, by rw [e225, w2]; rfl, w3, by omega, RN_trans (RN_lk f1) (RN_trans R2 (RN_trans R4 (RN_ran c16 R)))⟩
/-- what is asked for is run, if that is the mode -/
theorem ask_both (H : CP h m n nw k B) (hc : c < n) (hB : k + 17 ≤ B) : ∃ h' m' k', CP h' m' n nw k' B ∧ k' ≤ k + 17 ∧ p_235 m (Int32.ofNat c) = some m' ∧ LK h' m' n nw ∧ isSt n (ndc h' n nw) (twh h' n nw 26) (own h' n nw) (m' 1122) ∧ RN n nw h m h' m' ∧ ∀ (α : Type) (f : Hp → Option α), ((p_134 h (Int32.ofNat c)).bind fun vz2 => if vz2.1 = 0 then f vz2.2 else (p_138 vz2.2 (Int32.ofNat c)).bind fun vz13 => f vz13.2) = f h' := by
  have h16 := H.2.1.1
  have c16 : c < 16 := by omega
  have em : h 0 11 = m 1076 22 := H.2.2.2.2.1.2.2.2.2.2.2.2
  obtain ⟨m1, q1, f1, L1, s1, H1⟩ := cp_looks H
  have e76 : m1 1076 = m 1076 := f1 1076 (by unfold lkP; omega)
  by_cases e : h 0 11 = 1
  · obtain ⟨h1, p1, g1, t1, H1'⟩ := cp_judge H1
    have same : ∀ j, j < n → h1 3 j = m1 1122 j := fun j hj => st_unique t1 s1 j hj
    have R1 : RN n nw h m1 h1 m1 := RN_st g1
    have end1 := RN_ndc R1
    have s1' : isSt n (ndc h1 n nw) (twh h1 n nw 26) (own h1 n nw) (m1 1122) := by rw [end1, R1.2.2.2.2, own_st g1]; exact s1
    have e134 : p_134 h (Int32.ofNat c) = some ((if h1 3 c = 1 then 1 else 0 : Int32), h1) := by
      unfold p_134
      rw [if_pos e, e131 c16 p1]
      rfl
    by_cases e1 : m1 1122 c = 1
    · obtain ⟨r, h2, m2, k2, w1, w2, w3, w4, w5⟩ := with_both H1' s1' hc (by rw [e1]; decide) hB
      obtain ⟨m3, q3, f3, L3, s3, H3⟩ := cp_looks w3
      refine ⟨h2, m3, k2, H3, w4, ?_, L3, s3, RN_trans (RN_lk f1) (RN_trans R1 (RN_trans w5 (RN_lk f3))), fun α f => ?_⟩
      · unfold p_235
        rw [q1]
        simp only [Option.bind_some]
        rw [e76, ← em, if_pos e, u_ix c16 (by decide), u_cl (by omega)]
        simp only [w_gd]
        rw [if_pos e1, w2]
        simp only [Option.bind_some]
        rw [q3]
        rfl
      · rw [e134]
        simp only [Option.bind_some]
        rw [if_pos ((same c hc).trans e1), if_neg (by decide), w1]
        rfl
    · refine ⟨h1, m1, k, H1', by omega, ?_, LK_h L1 R1.2.2.2.1, s1', RN_trans (RN_lk f1) R1, fun α f => ?_⟩
      · unfold p_235
        rw [q1]
        simp only [Option.bind_some]
        rw [e76, ← em, if_pos e, u_ix c16 (by decide), u_cl (by omega)]
        simp only [w_gd]
        rw [if_neg e1]
      · rw [e134]
        simp only [Option.bind_some]
        rw [if_neg (fun hh => e1 ((same c hc).symm.trans hh)), if_pos rfl]
  · refine ⟨h, m1, k, H1, by omega, ?_, L1, s1, RN_lk f1, fun α f => ?_⟩
    · unfold p_235
      rw [q1]
      simp only [Option.bind_some]
      rw [e76, ← em, if_neg e]
    · unfold p_134
      rw [if_neg e]
      simp only [Option.bind_some]
      rw [if_pos trivial]
end SA7
