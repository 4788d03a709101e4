/-! ===== rules: clauses, and what holds by them ===== -/
def CLS (T : List Int32) : List ST → Nat → Prop
  | [], p => p = T.length + 1
  | a :: C, p => ∃ r h, p < r ∧ r ≤ T.length ∧ h < 26 ∧ cat T p = Int32.ofNat (97 + h) ∧ a.1 = Int32.ofNat h ∧ a.2.2 = Int32.ofNat p ∧ (∀ i, p ≤ i → i < r → ¬ cat T i = 59) ∧ (∀ j, j < 32 → bt a.2.1 j = lbt T (p + 1) r j) ∧ (r = T.length ∨ cat T r = 59) ∧ CLS T C (r + 1)
section S9g
variable {T : List Int32}
theorem rnm_le : ∀ (k : Nat) (x : Int32) (s : RS), s.1 ≤ T.length → ¬ (rnm T k x s).1 = -1 → (rnm T k x s).2.1 ≤ T.length := by
  intro k
  induction k with
  | zero => intro x s h _; exact h
  | succ k ih =>
    intro x s h hn
    rw [rnm_S] at hn ⊢
    by_cases c : isL (cat T s.1) = true
    · rw [if_pos c] at hn ⊢
      have hlt : s.1 < T.length := cat_ne (fun e => by rw [e] at c; exact absurd c (by decide))
      unfold rnt at hn ⊢
      by_cases k0 : k = 0
      · rw [if_pos k0]; exact hlt
      · rw [if_neg k0] at hn ⊢
        by_cases c2 : cat T (ra s).1 = 44
        · rw [if_pos c2] at hn ⊢
          exact ih _ (ra (ra s)) (cat_eq c2 (by decide)) hn
        · rw [if_neg c2]; exact hlt
    · rw [if_neg c] at hn; exact absurd rfl hn
theorem rcl_C (hT : T.length ≤ 40) : ∀ (f : Nat) (nm : Int32) (s : RS), s.1 ≤ T.length → s.2.1.length ≤ s.1 → (rcl T f nm s).1 = true → ¬ (rcl T f nm s).2.1 < T.length → ∃ C, (rcl T f nm s).2.2.1 = s.2.1 ++ C ∧ CLS T C s.1 := by
  intro f
  induction f with
  | zero => intro nm s _ _ h; cases h
  | succ f ih =>
    intro nm s0 hp hl h hend
    simp only [rcl] at h hend ⊢
    generalize hs : rstart s0 = s at h hend ⊢
    have s1 : s.1 = s0.1 := by rw [← hs]; rfl
    have s2 : s.2.1 = s0.2.1 := by rw [← hs]; rfl
    have s3 : s.2.2.1 = s0.1 := by rw [← hs]; rfl
    by_cases c : isL (cat T s.1) = true
    rotate_left
    · rw [if_neg c] at h; cases h
    rw [if_pos c] at h hend ⊢
    obtain ⟨l, hl26, e1, e2⟩ := L_nat c
    have hlt : s.1 < T.length := cat_ne (by rw [e1]; exact u_m1 (by omega))
    generalize hr : (if cat T (s.1 + 1) = 58 then rnm T 5 0 (ra (ra s)) else (0, ra s) : Int32 × RS) = r at h hend ⊢
    by_cases c1 : r.1 = -1
    · rw [if_pos c1] at h; cases h
    rw [if_neg c1] at h hend ⊢
    have hrr : r.2.2 = s.2 ∧ s.1 + 1 ≤ r.2.1 ∧ r.2.1 ≤ T.length ∧ (∀ i, s.1 + 1 ≤ i → i < r.2.1 → ¬ cat T i = 59) ∧ ∀ j, j < 32 → bt r.1 j = lbt T (s.1 + 1) r.2.1 j := by
      by_cases c2 : cat T (s.1 + 1) = 58
      · rw [if_pos c2] at hr
        have hlt2 := cat_eq c2 (by decide)
        subst hr
        obtain ⟨r1, r2, r3, r4⟩ := rnm_E 5 0 (ra (ra s)) c1
        have r2' : s.1 + 2 ≤ (rnm T 5 0 (ra (ra s))).2.1 := r2
        refine ⟨r1, by omega, rnm_le 5 0 (ra (ra s)) hlt2 c1, fun i h1 h2 => ?_, fun j hj => ?_⟩
        · by_cases ci : i = s.1 + 1
          · subst ci; rw [c2]; decide
          · exact r3 i (by show s.1 + 2 ≤ i; omega) h2
        · rw [r4 j hj, bt_zero, Bool.false_or]
          have ea := lbt_add (T := T) (p := s.1 + 1) (q := s.1 + 1 + 1) (r := (rnm T 5 0 (ra (ra s))).2.1) (j := j) (Nat.le_succ _) r2'
          rw [lbt_1, lb_no (by rw [c2]; decide), Bool.false_or] at ea
          exact ea.symm
      · rw [if_neg c2] at hr
        subst hr
        refine ⟨rfl, Nat.le_refl _, hlt, fun i h1 h2 => ?_, fun j hj => ?_⟩
        · have h2' : i < s.1 + 1 := h2
          omega
        · show bt 0 j = lbt T (s.1 + 1) (s.1 + 1) j
          rw [bt_zero, lbt_self]
    obtain ⟨r1, r2, r3, r4, r5⟩ := hrr
    have hre : (re r.2 (cat T s.1 - 97) r.1).2.1 = s0.2.1 ++ [(Int32.ofNat l, r.1, Int32.ofNat s0.1)] := by
      have h2 : r.2.2.1 = s.2.1 := by rw [r1]
      rw [re_app (by rw [h2, s2]; omega), h2, s2, e2]
      have h3 : r.2.2.2.1 = s0.1 := by rw [r1]; exact s3
      rw [h3]
    generalize hq : rdef (re r.2 (cat T s.1 - 97) r.1) (r.2.2.2.2.2.1 ||| (1 <<< ((cat T s.1 - 97) &&& 31))) = q at h hend ⊢
    have q1 : q.1 = r.2.1 := by rw [← hq]; rfl
    have q2 : q.2.1 = s0.2.1 ++ [(Int32.ofNat l, r.1, Int32.ofNat s0.1)] := by rw [← hq]; exact hre
    have mk1 : ∀ C, (r.2.1 = T.length ∨ cat T r.2.1 = 59) → CLS T C (r.2.1 + 1) → CLS T ((Int32.ofNat l, r.1, Int32.ofNat s0.1) :: C) s0.1 := by
      intro C h1 h2
      rw [s1] at r2 r4 r5 e1
      refine ⟨r.2.1, l, by omega, r3, hl26, e1, rfl, rfl, fun i h1 h2 => ?_, r5, h1, h2⟩
      by_cases ci : i = s0.1
      · subst ci; rw [e1]
        have : ∀ l, l < 26 → ¬ Int32.ofNat (97 + l) = 59 := by decide
        exact this l hl26
      · exact r4 i (by omega) h2
    by_cases c3 : cat T q.1 = 59
    · rw [if_pos c3] at h hend ⊢
      have hlt3 := cat_eq c3 (by decide)
      obtain ⟨C, x1, x2⟩ := ih (nm ||| r.1) (ra q) hlt3 (by show q.2.1.length ≤ q.1 + 1; rw [q2, List.length_append]; show s0.2.1.length + 1 ≤ q.1 + 1; omega) h hend
      refine ⟨(Int32.ofNat l, r.1, Int32.ofNat s0.1) :: C, ?_, mk1 C (Or.inr (by rw [← q1]; exact c3)) (by rw [← q1]; exact x2)⟩
      rw [x1]
      show q.2.1 ++ C = _
      rw [q2, List.append_assoc]; rfl
    · rw [if_neg c3] at h hend ⊢
      have hq3 : ¬ q.1 < T.length := hend
      refine ⟨[(Int32.ofNat l, r.1, Int32.ofNat s0.1)], q2, mk1 [] (Or.inl (by omega)) (by show r.2.1 + 1 = T.length + 1; omega)⟩
/-! what holds -/
theorem clr1_bt {a : ST} {h : Nat} {x : Int32} {j : Nat} (hh : h < 26) (ha : a.1 = Int32.ofNat h) : bt (clr1 a x) j = (bt x j || (decide (a.2.1 &&& (x ^^^ (-1)) = 0) && decide (j = h))) := by
  unfold clr1
  by_cases c : a.2.1 &&& (x ^^^ (-1)) = 0
  · rw [if_pos c, bt_or, ha, bt_one (by omega), decide_eq_true c, Bool.true_and]
  · rw [if_neg c, decide_eq_false c, Bool.false_and, Bool.or_false]
def hds (C : List ST) : Prop := ∀ a ∈ C, ∃ h, h < 26 ∧ a.1 = Int32.ofNat h
theorem CLS_hds : ∀ (C : List ST) (p : Nat), CLS T C p → hds C := by
  intro C
  induction C with
  | nil => intro p _ a ha; cases ha
  | cons b C ih =>
    intro p h a ha
    obtain ⟨r, h, h1, h2, h3, h4, h5, h6, h7, h8, h9, h10⟩ := h
    rcases List.mem_cons.mp ha with rfl | ha
    · exact ⟨h, h3, h5⟩
    · exact ih _ h10 a ha
theorem clr_cons {a : ST} {C : List ST} {x : Int32} : clr (a :: C) x = clr C (clr1 a x) := rfl
theorem clr_mono : ∀ (C : List ST) (x : Int32), hds C → ∀ j, bt x j = true → bt (clr C x) j = true := by
  intro C
  induction C with
  | nil => intro x _ j h; exact h
  | cons a C ih =>
    intro x hC j h
    obtain ⟨l, h1, h2⟩ := hC a (List.mem_cons_self ..)
    rw [clr_cons]
    refine ih _ (fun b hb => hC b (List.mem_cons_of_mem _ hb)) j ?_
    rw [clr1_bt h1 h2, h]; rfl
theorem clr_new : ∀ (C : List ST) (x : Int32), hds C → ∀ j, bt (clr C x) j = true → bt x j = true ∨ ∃ a ∈ C, a.1 = Int32.ofNat j ∧ j < 26 := by
  intro C
  induction C with
  | nil => intro x _ j h; exact Or.inl h
  | cons a C ih =>
    intro x hC j h
    obtain ⟨l, h1, h2⟩ := hC a (List.mem_cons_self ..)
    rw [clr_cons] at h
    rcases ih _ (fun b hb => hC b (List.mem_cons_of_mem _ hb)) j h with h | ⟨b, hb, h3⟩
    · rw [clr1_bt h1 h2] at h
      simp only [Bool.or_eq_true, Bool.and_eq_true, decide_eq_true_eq] at h
      rcases h with h | ⟨-, rfl⟩
      · exact Or.inl h
      · exact Or.inr ⟨a, List.mem_cons_self .., h2, h1⟩
    · exact Or.inr ⟨b, List.mem_cons_of_mem _ hb, h3⟩
/-- how many clauses' heads do not hold -/
def muh (C : List ST) (x : Int32) : Nat := (C.filter (fun a => !bt x a.1.toNatClampNeg)).length
theorem muh_le {C : List ST} {x : Int32} : muh C x ≤ C.length := List.length_filter_le _ _
theorem filter_lt {α : Type} {f g : α → Bool} : ∀ (L : List α), (∀ a ∈ L, f a = true → g a = true) → (∃ a ∈ L, f a = false ∧ g a = true) → (L.filter f).length < (L.filter g).length := by
  intro L
  induction L with
  | nil => intro _ ⟨a, ha, _⟩; cases ha
  | cons b L ih =>
    intro h ⟨a, ha, h1, h2⟩
    have hle : (L.filter f).length ≤ (L.filter g).length := by
      clear ih ha h1 h2
      have hh : ∀ a ∈ L, f a = true → g a = true := fun a ha => h a (List.mem_cons_of_mem _ ha)
      clear h
      induction L with
      | nil => exact Nat.le_refl _
      | cons c L ih =>
        have i1 := ih (fun a ha => hh a (List.mem_cons_of_mem _ ha))
        by_cases hf : f c = true
        · rw [List.filter_cons_of_pos hf, List.filter_cons_of_pos (hh c (List.mem_cons_self ..) hf)]
          simpa using i1
        · rw [List.filter_cons_of_neg hf]
          by_cases hg : g c = true
          · rw [List.filter_cons_of_pos hg]; simp; omega
          · rw [List.filter_cons_of_neg hg]; exact i1
    rcases List.mem_cons.mp ha with rfl | ha
    · rw [List.filter_cons_of_neg (by rw [h1]; decide), List.filter_cons_of_pos h2]; simp; omega
    · have i1 := ih (fun a ha => h a (List.mem_cons_of_mem _ ha)) ⟨a, ha, h1, h2⟩
      by_cases hf : f b = true
      · rw [List.filter_cons_of_pos hf, List.filter_cons_of_pos (h b (List.mem_cons_self ..) hf)]
        simpa using i1
      · rw [List.filter_cons_of_neg hf]
        by_cases hg : g b = true
        · rw [List.filter_cons_of_pos hg]; simp; omega
        · rw [List.filter_cons_of_neg hg]; exact i1
theorem muh_lt {C : List ST} {x : Int32} (hC : hds C) (hne : ¬ clr C x = x) : muh C (clr C x) < muh C x := by
  have hex : ∃ j, bt (clr C x) j = true ∧ ¬ bt x j = true := by
    by_cases h : ∃ j, bt (clr C x) j = true ∧ ¬ bt x j = true
    · exact h
    · refine absurd (bt_ext fun i _ => ?_) hne
      cases hx : bt x i with
      | true => exact clr_mono C x hC i hx
      | false =>
        cases hy : bt (clr C x) i with
        | false => rfl
        | true => exact absurd ⟨i, hy, by rw [hx]; decide⟩ h
  obtain ⟨j, h1, h2⟩ := hex
  rcases clr_new C x hC j h1 with h | ⟨a, ha, h3, h4⟩
  · exact absurd h h2
  · have ej : a.1.toNatClampNeg = j := by rw [h3, u_cl (by omega)]
    refine filter_lt C (fun b hb hf => ?_) ⟨a, ha, by rw [ej, h1]; rfl, by rw [ej]; simpa using h2⟩
    obtain ⟨l, l1, l2⟩ := hC b hb
    have el : b.1.toNatClampNeg = l := by rw [l2, u_cl (by omega)]
    rw [el] at hf ⊢
    cases hx : bt x l with
    | false => rfl
    | true => rw [clr_mono C x hC l hx] at hf; cases hf
theorem clrN_S {C : List ST} {n : Nat} {x : Int32} : clrN C (n + 1) x = clr C (clrN C n x) := rfl
theorem clrN_mu {C : List ST} {x : Int32} (hC : hds C) : ∀ n, clr C (clrN C n x) = clrN C n x ∨ muh C (clrN C n x) + n ≤ C.length := by
  intro n
  induction n with
  | zero => exact Or.inr muh_le
  | succ n ih =>
    rw [clrN_S]
    by_cases h : clr C (clrN C n x) = clrN C n x
    · left; rw [h, h]
    · right
      rcases ih with ih | ih
      · exact absurd ih h
      · have := muh_lt hC h
        omega
theorem clrN_fix {C : List ST} {x : Int32} (hC : hds C) : clr C (clrN C C.length x) = clrN C C.length x := by
  rcases clrN_mu (x := x) hC C.length with h | h
  · exact h
  · by_cases hh : clr C (clrN C C.length x) = clrN C C.length x
    · exact hh
    · have := muh_lt hC hh
      omega
theorem clrN_stay {C : List ST} {x : Int32} {k : Nat} (h : clr C (clrN C k x) = clrN C k x) : ∀ n, k ≤ n → clrN C n x = clrN C k x := by
  intro n hn
  induction hn with
  | refl => rfl
  | step _ ih => rw [clrN_S, ih, h]
theorem clrN_eq {C : List ST} {x : Int32} {k : Nat} (hC : hds C) (h : clr C (clrN C k x) = clrN C k x) : clrN C k x = clrN C C.length x := by
  by_cases hk : k ≤ C.length
  · exact (clrN_stay h C.length hk).symm
  · exact clrN_stay (clrN_fix hC) k (by omega)
end S9g
