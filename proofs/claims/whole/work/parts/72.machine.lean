/-! ===== the class's machine: steps, II ===== -/
section S72
variable {h h' : Hp} {P : PM} {p : DP}
theorem x_9 (H : pm h P) {d : Int32} {r : Int32 × PM} (hx : xs p 9 d P = some r) : g_64 32 (h 28 2 - 1) = true ∧ (if v_64 h 32 (h 28 2 - 1) = 0 then (2 : Int32) else 0) = r.1 ∧ r.2 = P := by
  have hx2 : (match P.2.1 with
    | .inl _ :: _ => some (0, P)
    | .inr _ :: _ => some (2, P)
    | [] => none) = some r := hx
  cases es : P.2.1 with
  | nil => rw [es] at hx2; cases hx2
  | cons v st =>
    rw [es] at hx2
    obtain ⟨a1, a2, a3, a4⟩ := k_1 H es
    obtain ⟨b1, b2⟩ := c_64 a2 a3
    rw [a1, b1, b2]
    cases v with
    | inl n => cases hx2; exact ⟨rfl, rfl, rfl⟩
    | inr l => cases hx2; exact ⟨rfl, rfl, rfl⟩
theorem x_11 {d : Nat} (hd : d < 26) (H : pm h P) {r : Int32 × PM} (hx : xs p 11 (Int32.ofNat d) P = some r) : g_63 29 (Int32.ofNat d) = true ∧ (if v_63 h 29 (Int32.ofNat d) = 0 then (1 : Int32) else 0) = r.1 ∧ r.2 = P := by
  have hx2 : some ((if P.1 (Int32.ofNat d).toNatClampNeg = none then (1 : Int32) else 0), P) = some r := hx
  rw [u_cl (by omega)] at hx2
  obtain ⟨v1, g1⟩ := c_63 (h := h) (q := 29) (show d < 27 by omega)
  have hv := H.1 d (by omega)
  obtain ⟨t1, t2⟩ := cv_tag hv
  cases hx2
  rw [v1, g1, t1]
  refine ⟨rfl, ?_, rfl⟩
  cases hv2 : P.1 d with
  | none => rfl
  | some v =>
    have : ¬ Int32.ofNat (vTag (some v)) = 0 := by
      cases v with
      | inl n => exact (by decide : ¬ Int32.ofNat 1 = 0)
      | inr l =>
        rw [hv2] at hv
        have h8 := hv.1
        intro e
        have e2 := (u_inj (b := 0) (show l.length + 2 < 2147483648 by omega) (by decide)).mp e
        omega
    rw [if_neg this]
    simp
theorem x_23 {d : Nat} (hd : d < 26) (H : pm h P) {r : Int32 × PM} (hx : xs p 13 (Int32.ofNat d) P = some r) : ∃ h', p_23 h (Int32.ofNat d) = some (r.1, h') ∧ pm h' r.2 ∧ xfr h h' := by
  have hx2 : (match P.2.1, P.1 (Int32.ofNat d).toNatClampNeg with
    | .inl b :: st, some (.inl a) => some (0, eup P.1 (Int32.ofNat d).toNatClampNeg (some (.inl (a + b))), st, P.2.2)
    | _ :: _, _ => some (2, P)
    | [], _ => none) = some r := hx
  rw [u_cl (by omega)] at hx2
  have hv := H.1 d (by omega)
  cases es : P.2.1 with
  | nil => rw [es] at hx2; cases hx2
  | cons w st =>
    rw [es] at hx2
    obtain ⟨a1, a2, a3, a4⟩ := k_1 H es
    obtain ⟨b1, b2⟩ := c_64 a2 a3
    obtain ⟨c1, c2⟩ := c_64 (h := h) (q := 29) (show d < 27 by omega) hv
    unfold p_23
    rw [a1, b1, b2, c1, c2]
    simp only [w_gd]
    cases hv2 : P.1 d with
    | none =>
      rw [hv2] at hx2
      have : r = (2, P) := by cases w <;> (cases hx2; rfl)
      subst this
      rw [if_pos (by rfl)]
      exact ⟨h, rfl, H, xfr_refl⟩
    | some v =>
      rw [hv2] at hx2 hv
      cases v with
      | inr l =>
        have : r = (2, P) := by cases w <;> (cases hx2; rfl)
        subst this
        rw [if_pos (by rfl)]
        exact ⟨h, rfl, H, xfr_refl⟩
      | inl a =>
        rw [if_neg (show ¬ ofB (vNum (some (Sum.inl a : VL))) = 0 from (by decide : ¬ ofB true = 0))]
        cases w with
        | inr l =>
          cases hx2
          rw [if_pos (by rfl)]
          exact ⟨h, rfl, H, xfr_refl⟩
        | inl b =>
          cases hx2
          rw [if_neg (show ¬ ofB (vNum (some (Sum.inl b : VL))) = 0 from (by decide : ¬ ofB true = 0))]
          obtain ⟨e1, e2⟩ := c_66 (h := h) (q := 29) (i := d) (k := 0) (by omega) (by decide)
          obtain ⟨f1, f2⟩ := c_66 (h := h) (q := 32) (i := st.length) (k := 0) a2 (by decide)
          have e1' : v_66 h 29 (Int32.ofNat d) 0 = a := e1.trans hv.2
          have f1' : v_66 h 32 (Int32.ofNat st.length) 0 = b := f1.trans a3.2
          have e2' : g_66 29 (Int32.ofNat d) 0 = true := e2
          have f2' : g_66 32 (Int32.ofNat st.length) 0 = true := f2
          rw [e2', f2', e1', f1']
          simp only [w_gd]
          obtain ⟨h1, g1, g2, g3⟩ := c_68 (h := h) (q := 29) (i := d) (n := a + b) (by omega)
          rw [g1]
          simp only [Option.bind_some, w_let]
          refine ⟨_, rfl, ⟨fun k hk => ?_, ?_, w_up_at, by show st.length ≤ 27; omega, ?_⟩, xfr_trans (xfr_e g3) xfr_2⟩
          · show cv _ 29 k (if k = d then some (.inl (a + b)) else P.1 k)
            by_cases c : k = d
            · rw [if_pos c, c]; exact cv_fr g2 (funext fun b => w_up_q (by decide)) (funext fun b => w_up_q (by decide))
            · rw [if_neg c]
              exact cv_fr (cv_vfr (H.1 k hk) g3 c) (funext fun b => w_up_q (by decide)) (funext fun b => w_up_q (by decide))
          · refine stk_fr a4 ?_ ?_
            · funext b; rw [w_up_q (by decide), g3.1 33 (by omega)]
            · funext b; rw [w_up_q (by decide), g3.1 34 (by omega)]
          · rw [w_up_b (by decide), g3.1 28 (by omega)]; exact H.2.2.2.2
theorem nums_len : ∀ (st : List VL) (l : List Int32), nums st = some l → l.length = st.length := by
  intro st
  induction st with
  | nil => intro l h; cases h; rfl
  | cons v st ih =>
    intro l h
    cases v with
    | inr _ => cases h
    | inl n =>
      simp only [nums, Option.map_eq_some_iff] at h
      obtain ⟨l', h1, rfl⟩ := h
      rw [List.length_cons, List.length_cons, ih _ h1]
theorem nums_at : ∀ (n : Nat) (st : List VL) (l : List Int32), n ≤ st.length → stk h st → nums (st.take n) = some l → (∀ i, i < n → h 34 ((st.length - n + i) * 8) = l.reverse.getD i 0) ∧ stk h (st.drop n) := by
  intro n
  induction n with
  | zero => intro st l _ H _; exact ⟨fun i hi => absurd hi (Nat.not_lt_zero i), H⟩
  | succ n ih =>
    intro st l hn H hl
    cases st with
    | nil => simp at hn
    | cons v st =>
      rw [List.take_succ_cons] at hl
      cases v with
      | inr _ => cases hl
      | inl a =>
        simp only [nums, Option.map_eq_some_iff] at hl
        obtain ⟨l', h1, rfl⟩ := hl
        have hn' : n ≤ st.length := by simpa using hn
        obtain ⟨i1, i2⟩ := ih st l' hn' H.2 h1
        have hlen : l'.length = n := by rw [nums_len _ _ h1, List.length_take]; omega
        refine ⟨fun i hi => ?_, i2⟩
        rw [List.length_cons, show st.length + 1 - (n + 1) = st.length - n by omega, List.reverse_cons, List.getD_eq_getElem?_getD]
        by_cases c : i = n
        · subst c
          rw [show st.length - i + i = st.length by omega, List.getElem?_append_right (by rw [List.length_reverse]; omega), List.length_reverse, hlen, Nat.sub_self]
          exact H.1.2
        · rw [List.getElem?_append_left (by rw [List.length_reverse]; omega), i1 i (by omega), List.getD_eq_getElem?_getD]
theorem x_26 {n : Nat} (hn : n < 40) (H : pm h P) {r : Int32 × PM} (hx : xs p 10 (Int32.ofNat n) P = some r) : ∃ h', p_26 h (Int32.ofNat n) = some (r.1, h') ∧ pm h' r.2 ∧ xfr h h' := by
  have hx2 : (if 0 < (Int32.ofNat n).toNatClampNeg ∧ (Int32.ofNat n).toNatClampNeg ≤ 8 ∧ (Int32.ofNat n).toNatClampNeg ≤ P.2.1.length then (match nums (P.2.1.take (Int32.ofNat n).toNatClampNeg) with
    | some l => some (0, P.1, .inr l.reverse :: P.2.1.drop (Int32.ofNat n).toNatClampNeg, P.2.2)
    | none => none) else none : Option (Int32 × PM)) = some r := hx
  rw [u_cl (by omega)] at hx2
  by_cases hc : 0 < n ∧ n ≤ 8 ∧ n ≤ P.2.1.length
  · rw [if_pos hc] at hx2
    obtain ⟨c1, c2, c3⟩ := hc
    have h27 := H.2.2.2.1
    cases hl : nums (P.2.1.take n) with
    | none => rw [hl] at hx2; cases hx2
    | some l =>
      rw [hl] at hx2
      cases hx2
      obtain ⟨n1, n2⟩ := nums_at n _ _ c3 H.2.1 hl
      have hlen : l.length = n := by rw [nums_len _ _ hl, List.length_take]; omega
      have eb : h 28 2 - Int32.ofNat n = Int32.ofNat (P.2.1.length - n) := by rw [H.2.2.1]; exact u_sub c3
      have hB : P.2.1.length - n < 27 := by omega
      unfold p_26
      rw [eb]
      obtain ⟨h1, a1, a2, a3⟩ := c_69 (h := h) (q := 32) hB
      rw [a1]
      simp only [Option.bind_some]
      have e34 : h1 34 = h 34 := by
        have : p_69 h 32 (Int32.ofNat (P.2.1.length - n)) = some (w_up h 33 (P.2.1.length - n) 2) := by
          unfold p_69
          have h1 : ¬ Int32.ofNat (P.2.1.length - n) < 0 := u_lt0 (by omega)
          have h2 : Int32.ofNat (P.2.1.length - n) < 27 := (u_ltL (by omega) (by decide)).mpr hB
          rw [if_neg h1, if_pos h2]
          simp (disch := omega) only [u_ix, u_cl, w_gd, w_let]
        rw [this] at a1
        cases a1
        exact funext fun b => w_up_q (by decide)
      have lp : ok (w_lp (fun (s : Int32 × Hp) => l_26_11 (Int32.ofNat n) (Int32.ofNat (P.2.1.length - n)) s.1 s.2) w_N (0, h1)) (fun g => cv g 32 (P.2.1.length - n) (some (.inr l.reverse)) ∧ vfr 32 (P.2.1.length - n) h g) := by
        refine ok_for (fun i s => s.1 = Int32.ofNat i ∧ cv s.2 32 (P.2.1.length - n) (some (.inr (l.reverse.take i))) ∧ vfr 32 (P.2.1.length - n) h s.2 ∧ ∀ j, i ≤ j → j < n → s.2 34 ((P.2.1.length - n + j) * 8) = l.reverse.getD j 0) n ⟨rfl, by rw [List.take_zero]; exact a2, a3, fun j _ hj => by show h1 34 _ = _; rw [e34]; exact n1 j hj⟩ (by unfold w_N; omega) ?_ ?_
        · rintro i ⟨i', g⟩ hi ⟨e, hc1, hf, hv⟩
          simp only at e hc1 hf hv
          subst e
          have hlt : Int32.ofNat i < Int32.ofNat n := (u_lt (by omega) (by omega)).mpr hi
          have ea : Int32.ofNat (P.2.1.length - n) + Int32.ofNat i = Int32.ofNat (P.2.1.length - n + i) := u_add _ _
          obtain ⟨e1, e2⟩ := c_66 (h := g) (q := 32) (i := P.2.1.length - n + i) (k := 0) (by omega) (by decide)
          have e2' : g_66 32 (Int32.ofNat (P.2.1.length - n + i)) 0 = true := e2
          have e1' : v_66 g 32 (Int32.ofNat (P.2.1.length - n + i)) 0 = l.reverse.getD i 0 := e1.trans (hv i (Nat.le_refl _) hi)
          have hl8 : (l.reverse.take i).length = i := by rw [List.length_take, List.length_reverse]; omega
          obtain ⟨g1, b1, b2, b3⟩ := c_70 (n := l.reverse.getD i 0) hB hc1 (by omega)
          unfold l_26_11
          rw [if_pos hlt, ea, e2', e1']
          simp only [w_gd]
          rw [b1]
          simp only [Option.bind_some, u_S]
          refine ok_some ⟨rfl, ?_, vfr_trans hf b3, fun j h1 h2 => ?_⟩
          · have : l.reverse.take (i + 1) = l.reverse.take i ++ [l.reverse.getD i 0] := by
              rw [List.take_succ, List.getD_eq_getElem?_getD]
              congr 1
              have : i < l.reverse.length := by rw [List.length_reverse]; omega
              rw [List.getElem?_eq_getElem this]; rfl
            rw [this]; exact b2
          · exact (b3.2.2 ((P.2.1.length - n + j) * 8) (by omega)).trans (hv j (by omega) h2)
        · rintro ⟨i', g⟩ ⟨e, hc1, hf, hv⟩
          simp only at e hc1 hf
          subst e
          have hlt : ¬ Int32.ofNat n < Int32.ofNat n := fun e => by have := (u_lt (by omega) (by omega)).mp e; omega
          unfold l_26_11
          rw [if_neg hlt]
          refine ok_some ⟨?_, hf⟩
          rw [List.take_of_length_le (by rw [List.length_reverse]; omega)] at hc1
          exact hc1
      obtain ⟨g, b1, b2, b3⟩ := lp
      rw [b1]
      simp only [Option.bind_some, w_let, u_S]
      exact ⟨_, rfl, pm_top H n2 (by rw [List.length_drop]) hB b2 b3 rfl, xfr_trans (xfr_v b3) xfr_2⟩
  · rw [if_neg hc] at hx2; cases hx2
end S72
