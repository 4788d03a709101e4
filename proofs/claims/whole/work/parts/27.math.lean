/-! ===== plain mathematics: counting, closure, states ===== -/
def cnt (f : Nat → Bool) : Nat → Nat
  | 0 => 0
  | n + 1 => cnt f n + (if f n then 1 else 0)
theorem cnt_le (f : Nat → Bool) : ∀ n, cnt f n ≤ n := by
  intro n
  induction n with
  | zero => exact Nat.le_refl 0
  | succ n ih => simp only [cnt]; split <;> omega
theorem cnt_mono {f g : Nat → Bool} : ∀ n, (∀ i, i < n → f i = true → g i = true) → cnt f n ≤ cnt g n := by
  intro n
  induction n with
  | zero => intro _; exact Nat.le_refl 0
  | succ n ih =>
    intro h
    have h1 := ih (fun i hi => h i (by omega))
    have h2 := h n (by omega)
    simp only [cnt]
    by_cases hf : f n = true
    · rw [hf, h2 hf]; simp only [if_true]; omega
    · rw [if_neg hf]; split <;> omega
theorem cnt_lt {f g : Nat → Bool} : ∀ n, (∀ i, i < n → f i = true → g i = true) → (∃ j, j < n ∧ f j = false ∧ g j = true) → cnt f n < cnt g n := by
  intro n
  induction n with
  | zero => rintro _ ⟨j, hj, -⟩; omega
  | succ n ih =>
    rintro h ⟨j, hj, hf, hg⟩
    simp only [cnt]
    have hm := cnt_mono n (fun i hi => h i (by omega))
    by_cases hjn : j = n
    · subst hjn
      rw [hf, hg]; simp only [if_true, Bool.false_eq_true, if_false]; omega
    · have h1 := ih (fun i hi => h i (by omega)) ⟨j, by omega, hf, hg⟩
      have h2 := h n (by omega)
      by_cases hfn : f n = true
      · rw [hfn, h2 hfn]; simp only [if_true]; omega
      · rw [if_neg hfn]; split <;> omega
theorem cnt_0 {f : Nat → Bool} : ∀ n, cnt f n = 0 → ∀ i, i < n → f i = false := by
  intro n
  induction n with
  | zero => intro _ i hi; omega
  | succ n ih =>
    intro h i hi
    simp only [cnt] at h
    by_cases hin : i = n
    · subst hin
      by_cases hf : f i = true
      · rw [if_pos hf] at h; omega
      · simpa using hf
    · exact ih (by omega) i (by omega)
theorem cnt_congr {f g : Nat → Bool} : ∀ n, (∀ i, i < n → f i = g i) → cnt f n = cnt g n := by
  intro n
  induction n with
  | zero => intro _; rfl
  | succ n ih =>
    intro h
    simp only [cnt]
    rw [ih (fun i hi => h i (by omega)), h n (by omega)]
/-- the closure, round by round -/
def cl (nd : Nat → Nat → Bool) : Nat → Nat → Nat → Bool
  | 0, c, i => nd c i
  | v + 1, c, i => cl nd v c i || (cl nd v c v && cl nd v v i)
theorem cl_S {nd : Nat → Nat → Bool} {v c i : Nat} : cl nd (v + 1) c i = true ↔ cl nd v c i = true ∨ (cl nd v c v = true ∧ cl nd v v i = true) := by
  simp only [cl, Bool.or_eq_true, Bool.and_eq_true]
theorem cl_mono {nd : Nat → Nat → Bool} {v w c i : Nat} (h : cl nd v c i = true) (hw : v ≤ w) : cl nd w c i = true := by
  induction hw with
  | refl => exact h
  | step _ ih => exact cl_S.mpr (Or.inl ih)
theorem cl_of {nd : Nat → Nat → Bool} {w c i : Nat} (h : nd c i = true) : cl nd w c i = true := cl_mono (v := 0) h (Nat.zero_le w)
theorem cl_trans {nd : Nat → Nat → Bool} : ∀ (v c j i : Nat), j < v → cl nd v c j = true → cl nd v j i = true → cl nd v c i = true := by
  intro v
  induction v with
  | zero => intro c j i hj; omega
  | succ v ih =>
    intro c j i hj h1 h2
    rw [cl_S] at h1 h2 ⊢
    by_cases hjv : j = v
    · subst hjv
      have a : cl nd j c j = true := h1.elim id (fun x => x.1)
      have b : cl nd j j i = true := h2.elim id (fun x => x.2)
      exact Or.inr ⟨a, b⟩
    · have hj' : j < v := by omega
      rcases h1 with h1 | ⟨h1, h1'⟩
      · rcases h2 with h2 | ⟨h2, h2'⟩
        · exact Or.inl (ih c j i hj' h1 h2)
        · exact Or.inr ⟨ih c j v hj' h1 h2, h2'⟩
      · rcases h2 with h2 | ⟨h2, h2'⟩
        · exact Or.inr ⟨h1, ih v j i hj' h1' h2⟩
        · exact Or.inr ⟨h1, h2'⟩
theorem cl_sound {nd : Nat → Nat → Bool} : ∀ (v c i : Nat), cl nd v c i = true → nd c i = true ∨ ∃ k, nd c k = true ∧ cl nd v k i = true := by
  intro v
  induction v with
  | zero => intro c i h; exact Or.inl h
  | succ v ih =>
    intro c i h
    rw [cl_S] at h
    rcases h with h | ⟨h1, h2⟩
    · rcases ih c i h with h | ⟨k, h3, h4⟩
      · exact Or.inl h
      · exact Or.inr ⟨k, h3, cl_mono h4 (by omega)⟩
    · rcases ih c v h1 with h | ⟨k, h3, h4⟩
      · exact Or.inr ⟨v, h, cl_mono h2 (by omega)⟩
      · exact Or.inr ⟨k, h3, cl_S.mpr (Or.inr ⟨h4, h2⟩)⟩
/-- the state of c, by those of the cells that it needs -/
def stp (n : Nat) (nd : Nat → Nat → Bool) (tw : Nat → Bool) (ow : Nat → Int32) (s : Nat → Int32) (c : Nat) : Int32 :=
  if tw c = true then 5 else if cl nd n c c = true then 4 else if ∃ j, j < n ∧ nd c j = true ∧ 2 ≤ s j then 3 else if ∃ j, j < n ∧ nd c j = true ∧ s j = 1 then 1 else ow c
def isSt (n : Nat) (nd : Nat → Nat → Bool) (tw : Nat → Bool) (ow : Nat → Int32) (s : Nat → Int32) : Prop := ∀ c, c < n → s c = stp n nd tw ow s c
section M28
variable {n : Nat} {nd : Nat → Nat → Bool} {tw : Nat → Bool} {ow ow' : Nat → Int32} {s s' : Nat → Int32}
def mu (n : Nat) (nd : Nat → Nat → Bool) (c : Nat) : Nat := cnt (cl nd n c) n
theorem mu_lt {c j : Nat} (hj : j < n) (hnd : nd c j = true) (hr : ¬ cl nd n j j = true) : mu n nd j < mu n nd c := by
  refine cnt_lt n (fun i _ h => cl_trans n c j i hj (cl_of hnd) h) ⟨j, hj, by simpa using hr, cl_of hnd⟩
theorem st_T {c : Nat} (hs : isSt n nd tw ow s) (hc : c < n) (h : tw c = true) : s c = 5 := by
  rw [hs c hc]; unfold stp; rw [if_pos h]
theorem st_R {c : Nat} (hs : isSt n nd tw ow s) (hc : c < n) (h : ¬ tw c = true) (h2 : cl nd n c c = true) : s c = 4 := by
  rw [hs c hc]; unfold stp; rw [if_neg h, if_pos h2]
theorem st_unique (hs : isSt n nd tw ow s) (hs' : isSt n nd tw ow s') : ∀ c, c < n → s c = s' c := by
  have key : ∀ m c, mu n nd c ≤ m → c < n → s c = s' c := by
    intro m
    induction m with
    | zero =>
      intro c hm hc
      by_cases ht : tw c = true
      · rw [st_T hs hc ht, st_T hs' hc ht]
      by_cases hr : cl nd n c c = true
      · rw [st_R hs hc ht hr, st_R hs' hc ht hr]
      have hno : ∀ j, j < n → nd c j = true → s j = s' j := by
        intro j hj hnd
        have h0 := cnt_0 (f := cl nd n c) n (by unfold mu at hm; omega) j hj
        rw [cl_of hnd] at h0; cases h0
      rw [hs c hc, hs' c hc]; unfold stp
      rw [if_neg ht, if_neg ht, if_neg hr, if_neg hr]
      have e1 : (∃ j, j < n ∧ nd c j = true ∧ 2 ≤ s j) ↔ (∃ j, j < n ∧ nd c j = true ∧ 2 ≤ s' j) :=
        ⟨fun ⟨j, a, b, d⟩ => ⟨j, a, b, hno j a b ▸ d⟩, fun ⟨j, a, b, d⟩ => ⟨j, a, b, (hno j a b).symm ▸ d⟩⟩
      have e2 : (∃ j, j < n ∧ nd c j = true ∧ s j = 1) ↔ (∃ j, j < n ∧ nd c j = true ∧ s' j = 1) :=
        ⟨fun ⟨j, a, b, d⟩ => ⟨j, a, b, hno j a b ▸ d⟩, fun ⟨j, a, b, d⟩ => ⟨j, a, b, (hno j a b).symm ▸ d⟩⟩
      simp only [e1, e2]
    | succ m ih =>
      intro c hm hc
      by_cases ht : tw c = true
      · rw [st_T hs hc ht, st_T hs' hc ht]
      by_cases hr : cl nd n c c = true
      · rw [st_R hs hc ht hr, st_R hs' hc ht hr]
      have hno : ∀ j, j < n → nd c j = true → s j = s' j := by
        intro j hj hnd
        by_cases htj : tw j = true
        · rw [st_T hs hj htj, st_T hs' hj htj]
        by_cases hrj : cl nd n j j = true
        · rw [st_R hs hj htj hrj, st_R hs' hj htj hrj]
        exact ih j (by have := mu_lt hj hnd hrj; omega) hj
      rw [hs c hc, hs' c hc]; unfold stp
      rw [if_neg ht, if_neg ht, if_neg hr, if_neg hr]
      have e1 : (∃ j, j < n ∧ nd c j = true ∧ 2 ≤ s j) ↔ (∃ j, j < n ∧ nd c j = true ∧ 2 ≤ s' j) :=
        ⟨fun ⟨j, a, b, d⟩ => ⟨j, a, b, hno j a b ▸ d⟩, fun ⟨j, a, b, d⟩ => ⟨j, a, b, (hno j a b).symm ▸ d⟩⟩
      have e2 : (∃ j, j < n ∧ nd c j = true ∧ s j = 1) ↔ (∃ j, j < n ∧ nd c j = true ∧ s' j = 1) :=
        ⟨fun ⟨j, a, b, d⟩ => ⟨j, a, b, hno j a b ▸ d⟩, fun ⟨j, a, b, d⟩ => ⟨j, a, b, (hno j a b).symm ▸ d⟩⟩
      simp only [e1, e2]
  intro c hc
  exact key _ c (Nat.le_refl _) hc
/-- a STALE cell is run whose needs are FRESH: nothing else that is not STALE changes -/
theorem st_run {c : Nat} (hs : isSt n nd tw ow s) (hs' : isSt n nd tw ow' s') (h0 : ∀ j, j < n → s j = 0 ∨ s j = 1 ∨ 2 ≤ s j) (hcn : c < n) (hc : s c = 1)
    (hw : ∀ j, j < n → j ≠ c → ¬ nd j c = true → ow' j = ow j) : ∀ j, j < n → s j ≠ 1 → s' j = s j := by
  have key : ∀ m j, mu n nd j ≤ m → j < n → s j ≠ 1 → s' j = s j := by
    intro m
    induction m with
    | zero =>
      intro j hm hj h1
      by_cases ht : tw j = true
      · rw [st_T hs hj ht, st_T hs' hj ht]
      by_cases hr : cl nd n j j = true
      · rw [st_R hs hj ht hr, st_R hs' hj ht hr]
      have hno : ∀ i, i < n → ¬ nd j i = true := by
        intro i hi hnd
        have h0 := cnt_0 (f := cl nd n j) n (by unfold mu at hm; omega) i hi
        rw [cl_of hnd] at h0; cases h0
      have hjc : j ≠ c := fun e => h1 (e ▸ hc)
      have hwj := hw j hj hjc
      rw [hs' j hj, hs j hj]; unfold stp
      rw [if_neg ht, if_neg ht, if_neg hr, if_neg hr, if_neg (fun ⟨i, a, b, _⟩ => hno i a b), if_neg (fun ⟨i, a, b, _⟩ => hno i a b), if_neg (fun ⟨i, a, b, _⟩ => hno i a b), if_neg (fun ⟨i, a, b, _⟩ => hno i a b)]
      exact hwj (hno c hcn)
    | succ m ih =>
      intro j hm hj h1
      by_cases ht : tw j = true
      · rw [st_T hs hj ht, st_T hs' hj ht]
      by_cases hr : cl nd n j j = true
      · rw [st_R hs hj ht hr, st_R hs' hj ht hr]
      have hi : ∀ i, i < n → nd j i = true → s i ≠ 1 → s' i = s i := by
        intro i hi hnd h
        by_cases hti : tw i = true
        · rw [st_T hs hi hti, st_T hs' hi hti]
        by_cases hri : cl nd n i i = true
        · rw [st_R hs hi hti hri, st_R hs' hi hti hri]
        exact ih i (by have := mu_lt hi hnd hri; omega) hi h
      have hjc : j ≠ c := fun e => h1 (e ▸ hc)
      by_cases e1 : ∃ i, i < n ∧ nd j i = true ∧ 2 ≤ s i
      · have e2 : ∃ i, i < n ∧ nd j i = true ∧ 2 ≤ s' i := by
          obtain ⟨i, a, b, d⟩ := e1
          exact ⟨i, a, b, by rw [hi i a b (by intro e; rw [e] at d; exact absurd d (by decide))]; exact d⟩
        rw [hs' j hj, hs j hj]; unfold stp
        rw [if_neg ht, if_neg ht, if_neg hr, if_neg hr, if_pos e1, if_pos e2]
      · by_cases e2 : ∃ i, i < n ∧ nd j i = true ∧ s i = 1
        · exfalso
          apply h1
          rw [hs j hj]; unfold stp
          rw [if_neg ht, if_neg hr, if_neg e1, if_pos e2]
        · have hz : ∀ i, i < n → nd j i = true → s i = 0 := by
            intro i a b
            rcases h0 i a with h | h | h
            · exact h
            · exact absurd ⟨i, a, b, h⟩ e2
            · exact absurd ⟨i, a, b, h⟩ e1
          have hz' : ∀ i, i < n → nd j i = true → s' i = 0 := by
            intro i a b
            rw [hi i a b (by rw [hz i a b]; decide), hz i a b]
          have e3 : ¬ ∃ i, i < n ∧ nd j i = true ∧ 2 ≤ s' i := by
            rintro ⟨i, a, b, d⟩
            rw [hz' i a b] at d; exact absurd d (by decide)
          have e4 : ¬ ∃ i, i < n ∧ nd j i = true ∧ s' i = 1 := by
            rintro ⟨i, a, b, d⟩
            rw [hz' i a b] at d; exact absurd d (by decide)
          rw [hs' j hj, hs j hj]; unfold stp
          rw [if_neg ht, if_neg ht, if_neg hr, if_neg hr, if_neg e1, if_neg e2, if_neg e3, if_neg e4]
          refine hw j hj hjc ?_
          intro hnd
          have := hz c hcn hnd
          rw [hc] at this; exact absurd this (by decide)
  intro j hj h1
  exact key _ j (Nat.le_refl _) hj h1
end M28
