/-! ===== the model's looks gives the states ===== -/
def lkP (q : Nat) : Prop := 1120 ≤ q ∧ q ≤ 1122
theorem MW_fr {h m m' : Hp} {n nw : Nat} (H : MW h m n nw) (h1 : m' 1076 2 = m 1076 2) (h2 : m' 1076 48 = m 1076 48) (h3 : m' 1083 = m 1083) (h4 : m' 1084 = m 1084) (h5 : m' 1085 = m 1085) (h6 : m' 1112 = m 1112) : MW h m' n nw := by
  unfold MW at *
  rw [h1, h2, h3, h4, h5, h6]; exact H
theorem MW_lk {h m m' : Hp} {n nw : Nat} (H : MW h m n nw) (hf : w_fr lkP m m') : MW h m' n nw :=
  MW_fr H (by rw [hf 1076 (by unfold lkP; omega)]) (by rw [hf 1076 (by unfold lkP; omega)]) (hf 1083 (by unfold lkP; omega)) (hf 1084 (by unfold lkP; omega)) (hf 1085 (by unfold lkP; omega)) (hf 1112 (by unfold lkP; omega))
theorem u_b11 {α : Type} {b : Bool} {x y : α} : (if (if b = true then (1 : Int32) else 0) = 1 then x else y) = if b = true then x else y := by cases b <;> rfl
section M38
variable {h m : Hp} {n nw : Nat}
theorem m_185a {g : Hp} {nd : Nat → Nat → Bool} {v : Nat} (hn : g 1076 2 = Int32.ofNat n) (h16 : n ≤ 16) (hv : v < n) (hr : ∀ c, c < n → ∀ j, j < 32 → bt (g 1121 c) j = cl nd v c j) : ok (w_lp (fun (s : Int32 × Hp) => l_185_33 (Int32.ofNat v) s.1 s.2) w_N (0, g)) (fun h' => w_fr (fun q => q = 1121) g h' ∧ ∀ c, c < n → ∀ j, j < 32 → bt (h' 1121 c) j = cl nd (v + 1) c j) := by
  refine ok_for (fun i s => s.1 = Int32.ofNat i ∧ w_fr (fun q => q = 1121) g s.2 ∧ ∀ c, c < n → ∀ j, j < 32 → bt (s.2 1121 c) j = if c < i then cl nd (v + 1) c j else cl nd v c j) n ⟨rfl, w_fr_refl _ _, fun c hc j hj => by rw [if_neg (by omega)]; exact hr c hc j hj⟩ (by unfold w_N; omega) ?_ ?_
  · rintro i ⟨i', k⟩ hi ⟨e, hk, hc⟩
    simp only at e hk hc
    subst e
    have hvv : ∀ j, j < 32 → bt (k 1121 v) j = cl nd v v j := by
      intro j hj
      rw [hc v hv j hj]
      split
      · simp only [cl]; cases cl nd v v j <;> simp
      · rfl
    simp only [l_185_33]
    refine ok_T ?_ ?_
    · rw [hk 1076 (by decide), hn]; exact (u_lt (by omega) (by omega)).mpr hi
    have hii : ∀ j, j < 32 → bt (k 1121 i) j = cl nd v i j := by
      intro j hj
      rw [hc i hi j hj, if_neg (by omega)]
    simp (disch := omega) only [u_ix, u_cl, w_gd, w_let, bt_shr, hii, ite_self, u_b11]
    refine ok_some ⟨u_S i, w_fr_up hk rfl, fun c hcn j hj => ?_⟩
    dsimp only
    by_cases h1 : c = i
    · subst h1
      rw [w_up_at, bt_or, hii j hj]
      have hlt : c < c + 1 := Nat.lt_succ_self c
      simp only [hlt, if_true, cl]
      cases hh : cl nd v c v with
      | true => simp only [if_true, hvv j hj, Bool.true_and]
      | false => simp only [Bool.false_eq_true, if_false, bt_zero, Bool.false_and]
    · rw [w_up_b h1, hc c hcn j hj]
      by_cases h2 : c < i
      · rw [if_pos h2, if_pos (by omega)]
      · rw [if_neg h2, if_neg (by omega)]
  · rintro ⟨i', k⟩ ⟨e, hk, hc⟩
    simp only at e hk hc
    subst e
    simp only [l_185_33]
    refine ok_F ?_ (ok_some ⟨hk, fun c hcn j hj => ?_⟩)
    · rw [hk 1076 (by decide), hn, u_lt (by omega) (by omega)]; omega
    · rw [hc c hcn j hj, if_pos hcn]
/-- needs and reach are told -/
def LK (h g : Hp) (n nw : Nat) : Prop := ∀ c, c < n → ∀ j, j < 32 → bt (g 1120 c) j = ndh h n nw c j ∧ bt (g 1121 c) j = cl (ndc h n nw) n c j
theorem m_185 (H : MW h m n nw) : ok (p_185 m) (fun g => w_fr (fun q => q = 1120 ∨ q = 1121) m g ∧ LK h g n nw) := by
  have h16 := H.1
  unfold p_185
  refine ok_bind (P := fun g => w_fr (fun q => q = 1120 ∨ q = 1121) m g ∧ ∀ c, c < n → ∀ j, j < 32 → bt (g 1120 c) j = ndh h n nw c j ∧ bt (g 1121 c) j = ndc h n nw c j) ?_ ?_
  · refine ok_for (fun i s => s.1 = Int32.ofNat i ∧ w_fr (fun q => q = 1120 ∨ q = 1121) m s.2 ∧ ∀ c, c < i → ∀ j, j < 32 → bt (s.2 1120 c) j = ndh h n nw c j ∧ bt (s.2 1121 c) j = ndc h n nw c j) n ⟨rfl, w_fr_refl _ _, fun c hc => by omega⟩ (by unfold w_N; omega) ?_ ?_
    · rintro i ⟨i', k⟩ hi ⟨e, hf, hc⟩
      simp only at e hf hc
      subst e
      have Hk : MW h k n nw := MW_lk H (w_fr_mono hf (fun q hq => by unfold lkP; omega))
      simp only [l_185_2]
      refine ok_T (by rw [Hk.2.2.1]; exact (u_lt (by omega) (by omega)).mpr hi) ?_
      refine ok_bind (m_183 Hk hi) ?_
      intro r hr
      simp (disch := omega) only [u_ix, u_cl, w_gd, w_let, w_up_at]
      refine ok_some ⟨u_S i, w_fr_up (w_fr_up hf (Or.inl rfl)) (Or.inr rfl), fun c hci j hj => ?_⟩
      dsimp only
      by_cases h1 : c = i
      · subst h1
        rw [w_up_q (by decide), w_up_at, w_up_at, bt_and, u_all, hr j hj]
        exact ⟨rfl, rfl⟩
      · rw [w_up_q (by decide), w_up_b h1, w_up_b h1, w_up_q (by decide)]
        exact hc c (by omega) j hj
    · rintro ⟨i', k⟩ ⟨e, hf, hc⟩
      simp only at e hf hc
      subst e
      simp only [l_185_2]
      refine ok_F ?_ (ok_some ⟨hf, hc⟩)
      rw [hf 1076 (by decide), H.2.2.1, u_lt (by omega) (by omega)]; omega
  · rintro g0 ⟨f0, n0⟩
    refine ok_for (fun i s => s.1 = Int32.ofNat i ∧ w_fr (fun q => q = 1121) g0 s.2 ∧ ∀ c, c < n → ∀ j, j < 32 → bt (s.2 1121 c) j = cl (ndc h n nw) i c j) n ⟨rfl, w_fr_refl _ _, fun c hc j hj => (n0 c hc j hj).2⟩ (by unfold w_N; omega) ?_ ?_
    · rintro i ⟨i', k⟩ hi ⟨e, hk, hc⟩
      simp only at e hk hc
      subst e
      have hn : k 1076 2 = Int32.ofNat n := by rw [hk 1076 (by decide), f0 1076 (by decide)]; exact H.2.2.1
      simp only [l_185_27]
      refine ok_T (by rw [hn]; exact (u_lt (by omega) (by omega)).mpr hi) ?_
      refine ok_bind (m_185a (v := i) hn h16 hi hc) ?_
      rintro r ⟨h1, h2⟩
      exact ok_some ⟨u_S i, w_fr_trans hk h1, h2⟩
    · rintro ⟨i', k⟩ ⟨e, hk, hc⟩
      simp only at e hk hc
      subst e
      have hn : k 1076 2 = Int32.ofNat n := by rw [hk 1076 (by decide), f0 1076 (by decide)]; exact H.2.2.1
      simp only [l_185_27]
      refine ok_F (by rw [hn, u_lt (by omega) (by omega)]; omega) (ok_some ⟨w_fr_trans f0 (w_fr_mono hk (fun q hq => Or.inr hq)), fun c hcn j hj => ⟨?_, hc c hcn j hj⟩⟩)
      rw [hk 1120 (by decide)]; exact (n0 c hcn j hj).1
theorem m_186 {g : Hp} {nd : Nat → Nat → Bool} {c : Nat} (hn : g 1076 2 = Int32.ofNat n) (h16 : n ≤ 16) (hc : c < n) (hr : ∀ c, c < n → ∀ j, j < 32 → bt (g 1121 c) j = cl nd n c j) : p_186 g (Int32.ofNat c) = some (sbo (fun j => cl nd n c j && cl nd n j c) 0 n) := by
  unfold p_186
  refine u_for (N := w_N) (fun i => (sbo (fun j => cl nd n c j && cl nd n j c) 0 i, Int32.ofNat i)) n (by unfold w_N; omega) ?_ ?_
  · intro i hi
    have e1 := hr c hc i (by omega)
    have e2 := hr i hi c (by omega)
    simp (disch := omega) only [l_186_4, hn, u_lt, hi, if_true, u_ix, w_gd, u_cl, bt_shr, e1, e2, u_b11, ite_self, sbo, u_S, Nat.zero_add]
    cases cl nd n c i <;> cases cl nd n i c <;> rfl
  · simp (disch := omega) only [l_186_4, hn, u_lt, Nat.lt_irrefl, if_false]
theorem ring0 {nd : Nat → Nat → Bool} {c : Nat} (h16 : n ≤ 16) (hc : c < n) : sbo (fun j => cl nd n c j && cl nd n j c) 0 n = 0 ↔ ¬ cl nd n c c = true := by
  rw [bt_0iff]
  constructor
  · intro h1 h2
    have := h1 c (by omega)
    rw [bt_sbo _ _ (by omega)] at this
    simp [h2, hc] at this
  · intro h1 j hj
    rw [bt_sbo _ _ (by omega)]
    by_cases hjn : j < n
    · cases e1 : cl nd n c j with
      | false => simp [e1]
      | true => cases e2 : cl nd n j c with
        | false => simp [e2]
        | true => exact absurd (cl_trans n c j c hjn e1 e2) h1
    · simp [hjn]
end M38
