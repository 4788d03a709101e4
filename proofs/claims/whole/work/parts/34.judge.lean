/-! ===== the class's states ===== -/
/-- what a widget shows, 0 where there is none -/
def shv (h : Hp) (nw w : Nat) : Int32 := if w < nw then h 8 w else 0
theorem s_93 {h : Hp} {nw w : Nat} (hw : h 4 7 = Int32.ofNat nw) (h4 : nw ≤ 4) (hw4 : w < 1000) : v_93 h (Int32.ofNat w) = shv h nw w ∧ g_93 h (Int32.ofNat w) = true := by
  have e : v_88 h (Int32.ofNat w) = if w < nw then 1 else 0 := by
    unfold v_88
    rw [if_neg (u_lt0 (by omega)), hw]
    simp only [u_lt (show w < 2147483648 by omega) (show nw < 2147483648 by omega)]
  unfold v_93 g_93 shv
  rw [e]
  by_cases h1 : w < nw
  · simp (disch := omega) only [h1, if_true, u_cl, u_ix]
    exact ⟨rfl, rfl⟩
  · simp only [h1, if_false, if_true]; exact ⟨trivial, trivial⟩
/-- whether widgets and needs are as when the cell (at q) was run -/
def asT (h : Hp) (nw q : Nat) (x : Int32) : Bool := !decide (h q 15 = 0) && (decide (x = h q 13) && !anyb (fun w => bt x (16 + w) && !decide (shv h nw w = h (q + 27) w)) 4)
theorem s_5 {h : Hp} {nw q : Nat} {x : Int32} (hw : h 4 7 = Int32.ofNat nw) (h4 : nw ≤ 4) : p_5 h q x = some (ofB (asT h nw q x)) := by
  unfold p_5 asT
  by_cases h1 : h q 15 = 0
  · rw [if_pos h1]; simp [h1, ofB]
  rw [if_neg h1]
  by_cases h2 : x = h q 13
  · rw [if_pos h2]
    have : ok (w_lp (fun s => l_5_11 h q x s) w_N 0) (fun r => r = ofB (!anyb (fun w => bt x (16 + w) && !decide (shv h nw w = h (q + 27) w)) 4)) := by
      refine ok_for (fun i s => s = Int32.ofNat i ∧ anyb (fun w => bt x (16 + w) && !decide (shv h nw w = h (q + 27) w)) i = false) 4 ⟨rfl, rfl⟩ (by decide) ?_ ?_
      · rintro i s hi ⟨e, h0⟩
        subst e
        have e16 : (16 : Int32) + Int32.ofNat i = Int32.ofNat (16 + i) := u_add 16 i
        obtain ⟨v1, v2⟩ := s_93 (w := i) hw h4 (by omega)
        have hi4 : Int32.ofNat i < 4 := (u_ltL (by omega) (by decide)).mpr hi
        simp (disch := omega) only [l_5_11, hi4, if_true, e16, u_has, u_b01, v1, v2, u_ix, w_gd, u_cl, u_S]
        cases hb : bt x (16 + i) with
        | false => exact ⟨_, rfl, rfl, by simp only [anyb, h0, hb]; rfl⟩
        | true =>
          by_cases h3 : shv h nw i = h (q + 27) i
          · simp only [h3, if_true]
            exact ⟨_, rfl, rfl, by simp only [anyb, h0, hb, h3]; simp⟩
          · simp only [h3, if_true, if_false]
            refine ⟨_, rfl, ?_⟩
            have : anyb (fun w => bt x (16 + w) && !decide (shv h nw w = h (q + 27) w)) 4 = true := (anyb_iff 4).mpr ⟨i, hi, by simp [hb, h3]⟩
            show _ = _
            rw [this]; rfl
      · rintro s ⟨e, h0⟩
        subst e
        simp only [l_5_11]
        exact ok_F (by decide) (ok_some (by rw [h0]; rfl))
    obtain ⟨r, e1, e2⟩ := this
    rw [e1, e2]; simp [h1, h2]
  · rw [if_neg h2]; simp [h2, ofB]
/-- the state by itself -/
def own (h : Hp) (n nw c : Nat) : Int32 := if anyb (fun k => ndc h n nw c k && decide (h (64 * c + 52) 14 < h (64 * k + 52) 14)) n = true then 1 else if asT h nw (64 * c + 52) (h 14 c) = true then (if h (64 * c + 52) 11 = 0 then 0 else 2) else 1
theorem s_133 {h : Hp} {n nw c : Nat} (h16 : n ≤ 16) (hn : h 0 10 = Int32.ofNat n) (hw : h 4 7 = Int32.ofNat nw) (h4 : nw ≤ 4) (hc : c < n) (hnd : ∀ j, j < 32 → bt (h 14 c) j = ndh h n nw c j) (s : Nat → Int32) (hs : ∀ j, j < n → h 3 j = s j) : p_133 h (Int32.ofNat c) = some (if ∃ j, j < n ∧ ndc h n nw c j = true ∧ 2 ≤ s j then 3 else if ∃ j, j < n ∧ ndc h n nw c j = true ∧ s j = 1 then 1 else own h n nw c) := by
  have hnd' : ∀ j, j < n → bt (h 14 c) j = ndc h n nw c j := by
    intro j hj; rw [hnd j (by omega)]; unfold ndc; simp; intro _; omega
  let st : Nat → Bool := anyb (fun k => ndc h n nw c k && (decide (s k = 1) || decide (h (64 * c + 52) 14 < h (64 * k + 52) 14)))
  have key : ok (w_lp (fun (q : Int32 × Int32) => l_133_10 h (Int32.ofNat c) (h 14 c) q.1 q.2) w_N (0, 0)) (fun r => (r = .inr 3 ∧ ∃ j, j < n ∧ ndc h n nw c j = true ∧ 2 ≤ s j) ∨ (r = .inl (ofB (st n)) ∧ ¬ ∃ j, j < n ∧ ndc h n nw c j = true ∧ 2 ≤ s j)) := by
    refine ok_for (fun i q => q.2 = Int32.ofNat i ∧ q.1 = ofB (st i) ∧ ¬ ∃ j, j < i ∧ ndc h n nw c j = true ∧ 2 ≤ s j) n ⟨rfl, rfl, by rintro ⟨j, hj, -⟩; omega⟩ (by unfold w_N; omega) ?_ ?_
    · rintro i ⟨x, y⟩ hi ⟨e1, e2, e3⟩
      simp only at e1 e2
      subst e1
      simp (disch := omega) only [l_133_10, hn, u_lt, hi, if_true, u_has, hnd' i hi, u_b01, u_ix, u_cl, w_gd, u_S, hs i hi]
      cases hb : ndc h n nw c i with
      | false =>
        refine ⟨_, rfl, rfl, ?_, ?_⟩
        · dsimp only; rw [e2]; simp only [st, anyb, hb]; simp
        · rintro ⟨j, hj, h1, h2⟩
          by_cases hji : j = i
          · subst hji; rw [hb] at h1; cases h1
          · exact e3 ⟨j, by omega, h1, h2⟩
      | true =>
        by_cases h2 : s i < 2
        · have h2' : ¬ 2 ≤ s i := by grind
          simp only [h2, if_true]
          have gd : (if x = 0 then true && (if s i = 1 then true else true && true) else true) = true := by split <;> (try split) <;> rfl
          rw [gd]
          refine ⟨_, rfl, rfl, ?_, ?_⟩
          · dsimp only
            have hst : st (i + 1) = (st i || (decide (s i = 1) || decide (h (64 * c + 52) 14 < h (64 * i + 52) 14))) := by simp only [st, anyb, hb, Bool.true_and]
            rw [e2, hst]
            cases st i with
            | true => rfl
            | false =>
              simp only [ofB, Bool.false_or, Bool.false_eq_true, if_false, if_true]
              by_cases h3 : s i = 1
              · simp [h3]
              · by_cases h4 : h (64 * i + 52) 14 ≤ h (64 * c + 52) 14
                · have : ¬ h (64 * c + 52) 14 < h (64 * i + 52) 14 := by grind
                  simp [h3, h4, this]
                · have : h (64 * c + 52) 14 < h (64 * i + 52) 14 := by grind
                  simp [h3, h4, this]
          · rintro ⟨j, hj, h1, h3⟩
            by_cases hji : j = i
            · subst hji; exact h2' h3
            · exact e3 ⟨j, by omega, h1, h3⟩
        · have h2' : 2 ≤ s i := by grind
          simp only [h2, if_true, if_false]
          exact ⟨_, rfl, Or.inl ⟨rfl, i, hi, hb, h2'⟩⟩
    · rintro ⟨x, y⟩ ⟨e1, e2, e3⟩
      simp only at e1 e2
      subst e1
      simp (disch := omega) only [l_133_10, hn, u_lt, Nat.lt_irrefl, if_false]
      exact ok_some (Or.inr ⟨by rw [e2], e3⟩)
  have : ok (p_133 h (Int32.ofNat c)) (fun r => r = if ∃ j, j < n ∧ ndc h n nw c j = true ∧ 2 ≤ s j then 3 else if ∃ j, j < n ∧ ndc h n nw c j = true ∧ s j = 1 then 1 else own h n nw c) := by
    unfold p_133
    simp (disch := omega) only [u_ix, u_cl, w_gd]
    refine ok_bind key ?_
    rintro r (⟨rfl, he⟩ | ⟨rfl, he⟩)
    · rw [if_pos he]; exact ok_some rfl
    · rw [if_neg he]
      simp only [Sum.elim_inl]
      have e5 := s_5 (h := h) (q := 64 * c + 52) (x := h 14 c) hw h4
      cases hst : st n with
      | false =>
        rw [if_pos (by rfl)]
        have h1 : ¬ ∃ j, j < n ∧ ndc h n nw c j = true ∧ s j = 1 := by
          rintro ⟨j, hj, h1, h2⟩
          have : st n = true := (anyb_iff n).mpr ⟨j, hj, by simp [h1, h2]⟩
          rw [hst] at this; cases this
        have h2 : ¬ anyb (fun k => ndc h n nw c k && decide (h (64 * c + 52) 14 < h (64 * k + 52) 14)) n = true := by
          intro h2
          obtain ⟨j, hj, h3⟩ := (anyb_iff n).mp h2
          have : st n = true := (anyb_iff n).mpr ⟨j, hj, by simp at h3; simp [h3.1, h3.2]⟩
          rw [hst] at this; cases this
        rw [if_neg h1]
        unfold own
        rw [if_neg h2]
        refine ok_bE e5 ?_
        cases asT h nw (64 * c + 52) (h 14 c) with
        | true => exact ok_F (by decide) (ok_some rfl)
        | false => exact ok_T (by decide) (ok_some rfl)
      | true =>
        rw [if_neg (by decide)]
        refine ok_some ?_
        by_cases h1 : ∃ j, j < n ∧ ndc h n nw c j = true ∧ s j = 1
        · rw [if_pos h1]
        · rw [if_neg h1]
          obtain ⟨j, hj, h3⟩ := (anyb_iff n).mp hst
          simp only [Bool.and_eq_true, Bool.or_eq_true, decide_eq_true_eq] at h3
          rcases h3 with ⟨h3, h5 | h5⟩
          · exact absurd ⟨j, hj, h3, h5⟩ h1
          · unfold own
            rw [if_pos ((anyb_iff n).mpr ⟨j, hj, by simp [h3, h5]⟩)]
  obtain ⟨r, e1, e2⟩ := this
  rw [e1, e2]
/-- how the list of the plain program grows -/
theorem ordl_full {n : Nat} {nd : Nat → Nat → Bool} {tw : Nat → Bool} : ∀ m, (ordl n nd tw m).length = m ∨ fst1 (nxf n nd tw (ordl n nd tw m)) n = none := by
  intro m
  induction m with
  | zero => exact Or.inl rfl
  | succ m ih =>
    cases hc : fst1 (nxf n nd tw (ordl n nd tw m)) n with
    | none =>
      have : ordl n nd tw (m + 1) = ordl n nd tw m := by simp only [ordl, hc]
      rw [this]; exact Or.inr hc
    | some c =>
      rcases ih with ih | ih
      · left
        have : ordl n nd tw (m + 1) = ordl n nd tw m ++ [c] := by simp only [ordl, hc]
        rw [this]; simp [ih]
      · rw [hc] at ih; cases ih
theorem ordl_get {n : Nat} {nd : Nat → Nat → Bool} {tw : Nat → Bool} : ∀ m i, i < (ordl n nd tw m).length → fst1 (nxf n nd tw (ordl n nd tw i)) n = some ((ordl n nd tw m).getD i 0) := by
  intro m
  induction m with
  | zero => intro i hi; simp [ordl] at hi
  | succ m ih =>
    intro i hi
    cases hc : fst1 (nxf n nd tw (ordl n nd tw m)) n with
    | none =>
      have : ordl n nd tw (m + 1) = ordl n nd tw m := by simp only [ordl, hc]
      rw [this] at hi ⊢
      exact ih i hi
    | some c =>
      have hS : ordl n nd tw (m + 1) = ordl n nd tw m ++ [c] := by simp only [ordl, hc]
      have hl : (ordl n nd tw m).length = m := by
        rcases ordl_full (n := n) (nd := nd) (tw := tw) m with h | h
        · exact h
        · rw [hc] at h; cases h
      rw [hS] at hi ⊢
      by_cases h1 : i < (ordl n nd tw m).length
      · rw [ih i h1]; simp [List.getElem?_append, h1]
      · have : i = m := by simp at hi; omega
        subst this
        rw [hc]; simp [List.getElem?_append, hl]
theorem ordl_mem {n : Nat} {nd : Nat → Nat → Bool} {tw : Nat → Bool} : ∀ m c, c ∈ ordl n nd tw m → c < n ∧ okb n nd tw c = true ∧ ∀ j, j < 32 → nd c j = true → j ∈ ordl n nd tw m := by
  intro m
  induction m with
  | zero => intro c hc; simp [ordl] at hc
  | succ m ih =>
    intro c hc
    cases hx : fst1 (nxf n nd tw (ordl n nd tw m)) n with
    | none =>
      have : ordl n nd tw (m + 1) = ordl n nd tw m := by simp only [ordl, hx]
      rw [this] at hc ⊢
      exact ih c hc
    | some d =>
      have hS : ordl n nd tw (m + 1) = ordl n nd tw m ++ [d] := by simp only [ordl, hx]
      rw [hS] at hc ⊢
      simp only [List.mem_append, List.mem_singleton] at hc ⊢
      rcases hc with hc | rfl
      · obtain ⟨a, b, e⟩ := ih c hc
        exact ⟨a, b, fun j hj h => Or.inl (e j hj h)⟩
      · obtain ⟨a, b, -⟩ := fst1_lt n hx
        simp only [nxf, Bool.and_eq_true, Bool.not_eq_true'] at b
        refine ⟨a, b.1.1, fun j hj h => Or.inl ?_⟩
        by_cases hm : j ∈ ordl n nd tw m
        · exact hm
        · have : anyb (fun j => nd c j && !decide (j ∈ ordl n nd tw m)) 32 = true := (anyb_iff 32).mpr ⟨j, hj, by simp [h, hm]⟩
          rw [b.1.2] at this; cases this
theorem ordl_cnt {n : Nat} {nd : Nat → Nat → Bool} {tw : Nat → Bool} : ∀ m, cnt (fun j => decide (j ∈ ordl n nd tw m)) n = (ordl n nd tw m).length := by
  intro m
  induction m with
  | zero =>
    have : ∀ k, cnt (fun j => decide (j ∈ ordl n nd tw 0)) k = 0 := by
      intro k
      induction k with
      | zero => rfl
      | succ k ih => simp only [cnt, ih]; simp [ordl]
    exact this n
  | succ m ih =>
    cases hx : fst1 (nxf n nd tw (ordl n nd tw m)) n with
    | none =>
      have : ordl n nd tw (m + 1) = ordl n nd tw m := by simp only [ordl, hx]
      rw [this]; exact ih
    | some d =>
      have hS : ordl n nd tw (m + 1) = ordl n nd tw m ++ [d] := by simp only [ordl, hx]
      obtain ⟨a, b, -⟩ := fst1_lt n hx
      simp only [nxf, Bool.and_eq_true, Bool.not_eq_true', decide_eq_false_iff_not] at b
      have key : ∀ k, cnt (fun j => decide (j ∈ ordl n nd tw m ++ [d])) k = cnt (fun j => decide (j ∈ ordl n nd tw m)) k + if d < k then 1 else 0 := by
        intro k
        induction k with
        | zero => rfl
        | succ k ihk =>
          simp only [cnt, ihk]
          by_cases hk : k = d
          · subst hk; simp [b.2]
          · simp only [List.mem_append, List.mem_singleton, hk, or_false]
            split <;> split <;> split <;> omega
      rw [hS, key n, ih, if_pos a]; simp
theorem cnt_full {f : Nat → Bool} : ∀ n, cnt f n = n → ∀ i, i < n → f i = true := by
  intro n
  induction n with
  | zero => intro _ i hi; omega
  | succ n ih =>
    intro h i hi
    have hle := cnt_le f n
    simp only [cnt] at h
    by_cases hf : f n = true
    · rw [if_pos hf] at h
      by_cases hin : i = n
      · subst hin; exact hf
      · exact ih (by omega) i (by omega)
    · rw [if_neg hf] at h; omega
/-- a cell that is not in the plain program is barred, or needs one that isn't -/
theorem ordl_out {n : Nat} {nd : Nat → Nat → Bool} {tw : Nat → Bool} {c : Nat} (hc : c < n) (h : c ∉ ordl n nd tw n) : okb n nd tw c = false ∨ ∃ j, j < 32 ∧ nd c j = true ∧ j ∉ ordl n nd tw n := by
  rcases ordl_full (n := n) (nd := nd) (tw := tw) n with hl | hl
  · have h1 := ordl_cnt (n := n) (nd := nd) (tw := tw) n
    rw [hl] at h1
    have := cnt_full n h1 c hc
    simp [h] at this
  · have h1 := fst1_none n hl c hc
    simp only [nxf, Bool.and_eq_false_iff, Bool.not_eq_false', decide_eq_true_eq] at h1
    rcases h1 with (h1 | h1) | h1
    · exact Or.inl h1
    · obtain ⟨j, hj, h2⟩ := (anyb_iff 32).mp h1
      simp only [Bool.and_eq_true, Bool.not_eq_true', decide_eq_false_iff_not] at h2
      exact Or.inr ⟨j, hj, h2.1, h2.2⟩
    · exact absurd h1 h
