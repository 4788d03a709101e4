/-! ===== the model's needs, rings, who is TWICE ===== -/
theorem u_once {σ ε : Type} {b : σ → Option (σ ⊕ ε)} {s : σ} {e : ε} {N : Nat} (hN : 0 < N) (h : b s = some (.inr e)) : w_lp b N s = some e := by
  obtain ⟨N, rfl⟩ : ∃ n, N = n + 1 := ⟨N - 1, by omega⟩
  simp only [w_lp, h]
theorem anyb_F : ∀ k, anyb (fun _ => false) k = false := by
  intro k
  induction k with
  | zero => rfl
  | succ k ih => simp only [anyb, ih]; rfl
def gmb (df ch : Nat → Bool) (c j : Nat) : Bool := match lst (fun k => ch k && (!ch c || decide (k < c))) 16 with
  | some l => decide (j = l)
  | none => df j
theorem gvb_gmb {df ch : Nat → Bool} {c j : Nat} : gvb df ch c j = (gmb df ch c j && decide (j ≠ c)) := by
  unfold gvb gmb
  cases hl : lst (fun k => ch k && (!ch c || decide (k < c))) 16 with
  | none => rfl
  | some l =>
    dsimp only
    have h1 := (lst_lt 16 hl).2
    simp only [Bool.and_eq_true, Bool.or_eq_true, Bool.not_eq_true', decide_eq_true_eq] at h1
    by_cases e : j = l
    · subst e
      have : j ≠ c := by
        rintro rfl
        rcases h1.2 with h2 | h2
        · rw [h1.1] at h2; cases h2
        · omega
      simp [this]
    · simp [e]
section M37
variable {h m : Hp} {n nw : Nat}
theorem ok_or {x y : Int32} {j : Nat} {a b : Bool} (h1 : bt x j = a) (h2 : bt y j = b) : bt (x ||| y) j = (a || b) := by rw [bt_or, h1, h2]
/-- what one letter adds -/
theorem m_183a (H : MW h m n nw) {c l : Nat} {r z : Int32} (hc : c < n) (hl : l < 26) (hr : match lst (fun k => chh h n l k && (!chh h n l c || decide (k < c))) 16 with
    | some k => r = Int32.ofNat k
    | none => (r = -1 ∧ ∀ j, dfh h n nw l j = false) ∨ (r = -2 ∧ 2 ≤ cnt (dfh h n nw l) 32) ∨ ∃ i, i < 20 ∧ r = Int32.ofNat i ∧ ∀ j, dfh h n nw l j = decide (j = i)) : ∃ z', q_183_28 m (Int32.ofNat c) (Int32.ofNat (97 + l)) r (if r < 0 then 0 else (1 <<< (r &&& 31))) z = some (.inl (z', Int32.ofNat (97 + l) + 1)) ∧ ∀ j, j < 32 → bt z' j = (bt z j || gmb (dfh h n nw l) (chh h n l) c j) := by
  have h16 := H.1; have h4 := H.2.1; have hn := H.2.2.1
  have one : ∀ k, k < 20 → r = Int32.ofNat k → (∀ j, j < 32 → gmb (dfh h n nw l) (chh h n l) c j = decide (j = k)) → ∃ z', q_183_28 m (Int32.ofNat c) (Int32.ofNat (97 + l)) r (if r < 0 then 0 else (1 <<< (r &&& 31))) z = some (.inl (z', Int32.ofNat (97 + l) + 1)) ∧ ∀ j, j < 32 → bt z' j = (bt z j || gmb (dfh h n nw l) (chh h n l) c j) := by
    intro k hk e hg
    subst e
    have n2 : ¬ Int32.ofNat k = -2 := by
      intro e
      have := u_lt0 (a := k) (by omega)
      rw [e] at this; exact this (by decide)
    unfold q_183_28
    rw [if_neg (u_lt0 (by omega))]
    rw [u_once (e := z ||| 1 <<< (Int32.ofNat k &&& 31)) (by decide) (by
      simp only [l_183_32, n2, if_false]; split <;> rfl)]
    simp only [Option.bind_some, q_183_57, n2, if_false]
    refine ⟨_, rfl, fun j hj => ?_⟩
    rw [bt_or, bt_or, bt_zero, bt_one (by omega), hg j hj, Bool.or_false]
  cases hk : lst (fun k => chh h n l k && (!chh h n l c || decide (k < c))) 16 with
  | some k =>
    rw [hk] at hr
    have := (lst_lt 16 hk).1
    exact one k (by omega) hr (fun j _ => by unfold gmb; rw [hk])
  | none =>
    rw [hk] at hr
    have hg : ∀ j, gmb (dfh h n nw l) (chh h n l) c j = dfh h n nw l j := fun j => by unfold gmb; rw [hk]
    rcases hr with ⟨e, hd⟩ | ⟨e, hd⟩ | ⟨i, hi, e, hd⟩
    · subst e
      unfold q_183_28
      rw [if_pos (by decide)]
      rw [u_once (e := z ||| 0) (by decide) (by
        simp only [l_183_32, show ¬ ((-1 : Int32) = -2) by decide, if_false]; split <;> rfl)]
      simp only [Option.bind_some, q_183_57]
      rw [if_neg (by decide)]
      refine ⟨_, rfl, fun j hj => ?_⟩
      rw [bt_or, bt_or, bt_zero, hg, hd, Bool.or_false]
    · subst e
      unfold q_183_28
      rw [if_pos (by decide)]
      have hdd : ∀ k, k < n → ((m 1083 k &&& v_162 (Int32.ofNat (97 + l))) = 0 ↔ ¬ bt (h (64 * k + 55) 5) l = true) := by
        intro k hk2; rw [← mw_d H hl hk2]; simp
      have hz0 : z ||| 0 = (z ||| 0) ||| sbo (fun k => bt (h (64 * k + 55) 5) l) 0 0 := by
        apply bt_ext; intro i _; rw [bt_or (z ||| 0)]; simp only [sbo, bt_zero, Bool.or_false]
      have hlp : w_lp (fun (s : Int32 × Int32) => l_183_32 m (Int32.ofNat (97 + l)) (-2) s.1 s.2) w_N (z ||| 0, 0) = some ((z ||| 0) ||| sbo (fun k => bt (h (64 * k + 55) 5) l) 0 n) := by
        rw [show ((z ||| 0, 0) : Int32 × Int32) = ((z ||| 0) ||| sbo (fun k => bt (h (64 * k + 55) 5) l) 0 0, Int32.ofNat 0) by rw [← hz0]; rfl]
        refine u_for (N := w_N) (fun i => ((z ||| 0) ||| sbo (fun k => bt (h (64 * k + 55) 5) l) 0 i, Int32.ofNat i)) n (by unfold w_N; omega) ?_ ?_
        · intro i hi
          have hdi := hdd i hi
          simp (disch := omega) only [l_183_32, hn, u_lt, hi, if_true, u_ix, u_cl, w_gd, hdi, u_S, sbo, Nat.zero_add, Int32.or_assoc]
          cases bt (h (64 * i + 55) 5) l <;> rfl
        · simp (disch := omega) only [l_183_32, hn, u_lt, Nat.lt_irrefl, if_false]
      rw [hlp]
      simp only [Option.bind_some, q_183_57]
      rw [if_pos trivial, s_170 H.2.2.2.1 H.2.1, mw_w H hl]
      simp only [Option.bind_some]
      have hdf : ∀ j, j < 32 → dfh h n nw l j = ((decide (j < n) && bt (h (64 * j + 55) 5) l) || match lst (fun w => decide (h 5 w = Int32.ofNat l)) nw with | some w => decide (j = 16 + w) | none => false) := by
        intro j hj
        unfold dfh
        cases hw : lst (fun w => decide (h 5 w = Int32.ofNat l)) nw with
        | none =>
          have h1 := lst_none nw hw
          by_cases h2 : 16 ≤ j ∧ j < 16 + nw
          · have := h1 (j - 16) (by omega)
            simp [this]
          · simp only [not_and] at h2
            by_cases h3 : 16 ≤ j
            · simp [h3, h2 h3]
            · simp [h3]
        | some w =>
          obtain ⟨w1, w2⟩ := lst_lt nw hw
          have w2' : h 5 w = Int32.ofNat l := by simpa using w2
          dsimp only
          congr 1
          by_cases e : j = 16 + w
          · subst e
            rw [show 16 + w - 16 = w by omega, w2']; simp; omega
          · by_cases h2 : 16 ≤ j ∧ j < 16 + nw
            · have : ¬ h 5 (j - 16) = Int32.ofNat l := by
                intro e2
                have := H.2.2.2.2.2.2 (j - 16) w (by omega) w1 (e2.trans w2'.symm)
                omega
              simp [this, e]
            · simp only [not_and] at h2
              by_cases h3 : 16 ≤ j
              · simp [h3, h2 h3, e]
              · simp [h3, e]
      have hm1 := oi_m1 (o := lst (fun w => decide (h 5 w = Int32.ofNat l)) nw) (n := nw) (fun k hk => (lst_lt nw hk).1) (by omega)
      cases hw : lst (fun w => decide (h 5 w = Int32.ofNat l)) nw with
      | none =>
        rw [hw] at hm1
        rw [if_pos (hm1.mpr rfl)]
        refine ⟨_, rfl, fun j hj => ?_⟩
        rw [bt_or, bt_or, bt_or, bt_zero, bt_sbo _ _ (by omega), hg, hdf j hj, hw]
        simp
      | some w =>
        rw [hw] at hm1
        rw [if_neg (fun e => by cases hm1.mp e)]
        have w1 := (lst_lt nw hw).1
        simp only [oi]
        have e16 : (16 : Int32) + Int32.ofNat w = Int32.ofNat (16 + w) := u_add 16 w
        rw [e16]
        refine ⟨_, rfl, fun j hj => ?_⟩
        rw [bt_or, bt_or, bt_or, bt_zero, bt_sbo _ _ (by omega), bt_one (by omega), hg, hdf j hj, hw]
        simp [Bool.or_assoc]
    · exact one i hi e (fun j _ => by rw [hg, hd])
theorem m_183 (H : MW h m n nw) {c : Nat} (hc : c < n) : ok (p_183 m (Int32.ofNat c)) (fun r => ∀ j, j < 32 → bt r j = ndh h n nw c j) := by
  have h16 := H.1
  unfold p_183
  refine ok_bind (P := fun r => ∀ j, j < 32 → bt r j = anyb (fun x => bt (h (64 * c + 55) 7) x && gmb (dfh h n nw x) (chh h n x) c j) 26) ?_ ?_
  · refine ok_for (fun i s => s.2 = Int32.ofNat (97 + i) ∧ ∀ j, j < 32 → bt s.1 j = anyb (fun x => bt (h (64 * c + 55) 7) x && gmb (dfh h n nw x) (chh h n x) c j) i) 26 ⟨rfl, fun j _ => bt_zero j⟩ (by decide) ?_ ?_
    · rintro i ⟨z, y⟩ hi ⟨e, hb⟩
      simp only at e hb
      subst e
      simp only [l_183_4]
      refine ok_T ((u_leL (by omega) (by decide)).mpr (show 97 + i ≤ 122 by omega)) ?_
      have hu : ((m 1085 c &&& v_162 (Int32.ofNat (97 + i))) = 0) ↔ ¬ bt (h (64 * c + 55) 7) i = true := by
        rw [s_162 hi, (H.2.2.2.2.1 c hc).2.2]; exact u_bit (by omega)
      simp (disch := omega) only [u_ix, u_cl, w_gd, hu]
      cases hx : bt (h (64 * c + 55) 7) i with
      | false =>
        refine ok_T (by decide) (ok_some ⟨u_S _, fun j hj => ?_⟩)
        dsimp only
        rw [hb j hj]; simp only [anyb, hx, Bool.false_and, Bool.or_false]
      | true =>
        refine ok_F (by decide) ?_
        obtain ⟨r, hr, hq⟩ := m_182 H hc hi
        refine ok_bE hr ?_
        obtain ⟨z', h1, h2⟩ := m_183a (z := z) H hc hi hq
        refine ok_E h1 ⟨u_S _, fun j hj => ?_⟩
        dsimp only
        rw [h2 j hj, hb j hj]; simp only [anyb, hx, Bool.true_and]
    · rintro ⟨z, y⟩ ⟨e, hb⟩
      simp only at e hb
      subst e
      simp only [l_183_4]
      exact ok_F (by decide) (ok_some hb)
  · intro r hb
    refine ok_some (fun j hj => ?_)
    rw [bt_and, bt_not hj, bt_one (by omega), hb j hj]
    unfold ndh
    have : ∀ k, anyb (fun x => bt (h (64 * c + 55) 7) x && gvb (dfh h n nw x) (chh h n x) c j) k = (anyb (fun x => bt (h (64 * c + 55) 7) x && gmb (dfh h n nw x) (chh h n x) c j) k && !decide (j = c)) := by
      intro k
      induction k with
      | zero => rfl
      | succ k ih =>
        have hdn : decide (j ≠ c) = !decide (j = c) := by simp
        simp only [anyb, ih, gvb_gmb, hdn]
        cases decide (j = c) with
        | true =>
          simp only [Bool.not_true, Bool.and_false, Bool.or_false]
          exact anyb_F k
        | false => simp only [Bool.not_false, Bool.and_true]
    rw [this]
theorem m_184 (H : MW h m n nw) {c : Nat} (hc : c < n) : p_184 m (Int32.ofNat c) = some (ofB (twh h n nw 26 c)) := by
  have h16 := H.1
  unfold p_184
  refine u_for (N := w_N) (fun i => (ofB (twh h n nw i c), Int32.ofNat (97 + i))) 26 (by decide) ?_ ?_
  · intro i hi
    have hle : Int32.ofNat (97 + i) ≤ 122 := (u_leL (by omega) (by decide)).mpr (show 97 + i ≤ 122 by omega)
    have hd : ((m 1083 c &&& v_162 (Int32.ofNat (97 + i))) = 0 ↔ ¬ bt (h (64 * c + 55) 5) i = true) := by
      rw [← mw_d H hi hc]; simp
    have hdf : dfh h n nw i c = bt (h (64 * c + 55) 5) i := by unfold dfh; simp [hc]; omega
    have hS : twh h n nw (i + 1) c = (twh h n nw i c || (decide (1 < cnt (dfh h n nw i) 32) && bt (h (64 * c + 55) 5) i)) := by
      unfold twh; simp only [anyb, hdf]; simp [show c < 16 by omega]
    have hcl := cnt_le (dfh h n nw i) 32
    simp (disch := omega) only [l_184_4, hle, if_true, u_ix, u_cl, w_gd, hd, m_179 H hi, Option.bind_some, u_S, hS]
    cases twh h n nw i c with
    | true => rfl
    | false =>
      simp only [ofB, Bool.false_eq_true, if_false, if_true, Bool.false_or]
      cases bt (h (64 * c + 55) 5) i with
      | false => simp only [Bool.false_eq_true, not_false_eq_true, if_true, Bool.and_false]; rfl
      | true =>
        simp only [not_true, if_false, Bool.and_true]
        by_cases h1 : cnt (dfh h n nw i) 32 ≤ 1
        · rw [if_pos ((u_leL (by omega) (by decide)).mpr h1)]
          rw [decide_eq_false (by omega)]; rfl
        · rw [if_neg (fun e => h1 ((u_leL (by omega) (by decide)).mp e))]
          rw [decide_eq_true (by omega)]; rfl
  · have : ¬ Int32.ofNat (97 + 26) ≤ 122 := by decide
    simp only [l_184_4, this, if_false]
    cases twh h n nw 26 c <;> rfl
end M37
