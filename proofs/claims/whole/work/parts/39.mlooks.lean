/-! ===== the model's looks gives the states, II ===== -/
section M39
variable {h m : Hp} {n nw : Nat}
theorem stp_nn {nd : Nat → Nat → Bool} {tw : Nat → Bool} {ow s : Nat → Int32} {c : Nat} (how : 0 ≤ ow c) : 0 ≤ stp n nd tw ow s c := by
  unfold stp
  split
  · decide
  · split
    · decide
    · split
      · decide
      · split
        · decide
        · exact how
theorem stp_cong {nd : Nat → Nat → Bool} {tw : Nat → Bool} {ow s s' : Nat → Int32} {c : Nat} (hv : ¬ tw c = true → ¬ cl nd n c c = true → ∀ j, j < n → nd c j = true → s' j = s j) : stp n nd tw ow s' c = stp n nd tw ow s c := by
  unfold stp
  by_cases ht : tw c = true
  · rw [if_pos ht, if_pos ht]
  by_cases hr : cl nd n c c = true
  · rw [if_neg ht, if_neg ht, if_pos hr, if_pos hr]
  have hv' := hv ht hr
  have e1 : (∃ j, j < n ∧ nd c j = true ∧ 2 ≤ s' j) ↔ (∃ j, j < n ∧ nd c j = true ∧ 2 ≤ s j) :=
    ⟨fun ⟨j, a, b, z⟩ => ⟨j, a, b, hv' j a b ▸ z⟩, fun ⟨j, a, b, z⟩ => ⟨j, a, b, (hv' j a b).symm ▸ z⟩⟩
  have e2 : (∃ j, j < n ∧ nd c j = true ∧ s' j = 1) ↔ (∃ j, j < n ∧ nd c j = true ∧ s j = 1) :=
    ⟨fun ⟨j, a, b, z⟩ => ⟨j, a, b, hv' j a b ▸ z⟩, fun ⟨j, a, b, z⟩ => ⟨j, a, b, (hv' j a b).symm ▸ z⟩⟩
  simp only [e1, e2]
theorem m_188a {g1 : Hp} (H : MW h g1 n nw) (hL : LK h g1 n nw) : ok (w_lp (fun (s : Int32 × Int32 × Hp) => l_188_6 s.1 s.2.1 s.2.2) w_N (0, 0, g1)) (fun r => w_fr (fun q => q = 1122) g1 r.2 ∧ (∀ j, j < 32 → bt r.1 j = (decide (j < n) && (twh h n nw 26 j || cl (ndc h n nw) n j j))) ∧ ∀ c, c < n → r.2 1122 c = if twh h n nw 26 c = true then 5 else if cl (ndc h n nw) n c c = true then 4 else -1) := by
  have h16 := H.1
  refine ok_for (fun i s => s.2.1 = Int32.ofNat i ∧ w_fr (fun q => q = 1122) g1 s.2.2 ∧ (∀ j, j < 32 → bt s.1 j = (decide (j < i) && (twh h n nw 26 j || cl (ndc h n nw) n j j))) ∧ ∀ c, c < i → s.2.2 1122 c = if twh h n nw 26 c = true then 5 else if cl (ndc h n nw) n c c = true then 4 else -1) n ⟨rfl, w_fr_refl _ _, fun j _ => by show bt 0 j = _; rw [bt_zero]; simp, fun c hc => by omega⟩ (by unfold w_N; omega) ?_ ?_
  · rintro i ⟨x, i', k⟩ hi ⟨e, hf, hb, hc⟩
    simp only at e hf hb hc
    subst e
    have Hk : MW h k n nw := MW_lk H (w_fr_mono hf (fun q hq => by unfold lkP; omega))
    have hr : ∀ c, c < n → ∀ j, j < 32 → bt (k 1121 c) j = cl (ndc h n nw) n c j := fun c hc j hj => by rw [hf 1121 (by decide)]; exact (hL c hc j hj).2
    have fin : ∀ v : Int32, v = (if twh h n nw 26 i = true then 5 else if cl (ndc h n nw) n i i = true then 4 else -1) → ok (q_188_26 k x (Int32.ofNat i) v (Int32.ofNat i)) (Sum.elim (fun s => s.2.1 = Int32.ofNat (i + 1) ∧ w_fr (fun q => q = 1122) g1 s.2.2 ∧ (∀ j, j < 32 → bt s.1 j = (decide (j < i + 1) && (twh h n nw 26 j || cl (ndc h n nw) n j j))) ∧ ∀ c, c < i + 1 → s.2.2 1122 c = if twh h n nw 26 c = true then 5 else if cl (ndc h n nw) n c c = true then 4 else -1) (fun r => w_fr (fun q => q = 1122) g1 r.2 ∧ (∀ j, j < 32 → bt r.1 j = (decide (j < n) && (twh h n nw 26 j || cl (ndc h n nw) n j j))) ∧ ∀ c, c < n → r.2 1122 c = if twh h n nw 26 c = true then 5 else if cl (ndc h n nw) n c c = true then 4 else -1)) := by
      intro v hv
      simp (disch := omega) only [q_188_26, u_ix, u_cl, w_gd, w_let, w_up_at]
      refine ok_some ⟨u_S i, w_fr_up hf rfl, fun j hj => ?_, fun c hci => ?_⟩ <;> dsimp only
      · have e0 : bt (if v = (-1) then 0 else 1 <<< (Int32.ofNat i &&& 31)) j = (decide (j = i) && (twh h n nw 26 i || cl (ndc h n nw) n i i)) := by
          rw [hv]
          cases twh h n nw 26 i with
          | true =>
            simp only [if_true]
            rw [if_neg (by decide : ¬ (5 : Int32) = -1), bt_one (by omega)]; simp
          | false =>
            simp only [Bool.false_eq_true, if_false]
            cases cl (ndc h n nw) n i i with
            | true =>
              simp only [if_true]
              rw [if_neg (by decide : ¬ (4 : Int32) = -1), bt_one (by omega)]; simp
            | false => simp [bt_zero]
        rw [bt_or, hb j hj, e0]
        by_cases e1 : j = i
        · subst e1; simp
        · by_cases e2 : j < i
          · simp [e1, e2, show j < i + 1 by omega]
          · simp [e1, e2, show ¬ j < i + 1 by omega]
      · by_cases e1 : c = i
        · subst e1; rw [w_up_at]; exact hv
        · rw [w_up_b e1]; exact hc c (by omega)
    simp only [l_188_6]
    refine ok_T (by rw [Hk.2.2.1]; exact (u_lt (by omega) (by omega)).mpr hi) ?_
    refine ok_bE (m_184 Hk hi) ?_
    cases ht : twh h n nw 26 i with
    | true =>
      refine ok_F (by decide) ?_
      exact fin 5 (by rw [ht]; rfl)
    | false =>
      refine ok_T (by decide) ?_
      refine ok_bE (m_186 Hk.2.2.1 h16 hi hr) ?_
      refine fin _ ?_
      simp only [ht, Bool.false_eq_true, if_false]
      by_cases hz : cl (ndc h n nw) n i i = true
      · rw [if_neg (fun e => (ring0 h16 hi).mp e hz), if_pos hz]
      · rw [if_pos ((ring0 h16 hi).mpr hz), if_neg hz]
  · rintro ⟨x, i', k⟩ ⟨e, hf, hb, hc⟩
    simp only at e hf hb hc
    subst e
    simp only [l_188_6]
    refine ok_F ?_ (ok_some ⟨hf, hb, hc⟩)
    rw [hf 1076 (by decide), H.2.2.1, u_lt (by omega) (by omega)]; omega
/-- what holds of the states while looks goes on -/
def lkI (h g1 : Hp) (n nw : Nat) (ow : Nat → Int32) (x : Int32) (g : Hp) : Prop :=
  w_fr (fun q => q = 1122) g1 g ∧ (∀ j, j < 32 → bt x j = (decide (j < n) && !decide (g 1122 j = -1))) ∧ (∀ c, c < n → g 1122 c = -1 → ¬ twh h n nw 26 c = true ∧ ¬ cl (ndc h n nw) n c c = true) ∧ ∀ c, c < n → ¬ g 1122 c = -1 → g 1122 c = stp n (ndc h n nw) (twh h n nw 26) ow (g 1122) c ∧ (¬ twh h n nw 26 c = true → ¬ cl (ndc h n nw) n c c = true → ∀ j, j < n → ndc h n nw c j = true → ¬ g 1122 j = -1)
theorem m_188c {g : Hp} {k : Nat} (h16 : n ≤ 16) (hn : g 1076 2 = Int32.ofNat n) (hk : k < n) (hnd : ∀ j, j < 32 → bt (g 1120 k) j = ndh h n nw k j) (x1 x2 : Int32) : w_lp (fun (s : Int32 × Int32 × Int32) => l_188_78 g x1 (Int32.ofNat k) s.1 s.2.1 s.2.2) w_N (0, 0, 0) = some (ofB (anyb (fun j => ndc h n nw k j && !decide (g 1122 j ≤ 1)) n), ofB (anyb (fun j => ndc h n nw k j && decide (g 1122 j = 1)) n)) := by
  refine u_for (N := w_N) (fun i => (ofB (anyb (fun j => ndc h n nw k j && !decide (g 1122 j ≤ 1)) i), ofB (anyb (fun j => ndc h n nw k j && decide (g 1122 j = 1)) i), Int32.ofNat i)) n (by unfold w_N; omega) ?_ ?_
  · intro i hi
    have e1 : ndc h n nw k i = ndh h n nw k i := by unfold ndc; simp; intro _; omega
    simp (disch := omega) only [l_188_78, q_188_95, q_188_109, hn, u_lt, hi, if_true, u_ix, u_cl, w_gd, bt_shr, hnd, u_b11, u_S, anyb, e1]
    generalize anyb (fun j => ndc h n nw k j && !decide (g 1122 j ≤ 1)) i = a
    generalize anyb (fun j => ndc h n nw k j && decide (g 1122 j = 1)) i = b
    generalize ndh h n nw k i = d
    by_cases s1 : g 1122 i ≤ 1 <;> by_cases s2 : g 1122 i = 1 <;> cases a <;> cases b <;> cases d <;> simp [ofB, s1, s2]
  · simp (disch := omega) only [l_188_78, hn, u_lt, Nat.lt_irrefl, if_false]
/-- one cell of looks is told -/
theorem m_188d {g1 g : Hp} {ow : Nat → Int32} {x : Int32} {k : Nat} (h16 : n ≤ 16) (how : ∀ c, c < n → 0 ≤ ow c) (hI : lkI h g1 n nw ow x g) (hk : k < n) (hu : g 1122 k = -1) (hnd : ∀ j, j < n → ndc h n nw k j = true → ¬ g 1122 j = -1) : lkI h g1 n nw ow (x ||| (1 <<< (Int32.ofNat k &&& 31))) (w_up g 1122 k (stp n (ndc h n nw) (twh h n nw 26) ow (g 1122) k)) ∧ cnt (fun j => decide (w_up g 1122 k (stp n (ndc h n nw) (twh h n nw 26) ow (g 1122) k) 1122 j = -1)) n < cnt (fun j => decide (g 1122 j = -1)) n := by
  obtain ⟨hf, hx, h3, h4⟩ := hI
  generalize hv : stp n (ndc h n nw) (twh h n nw 26) ow (g 1122) k = v
  have hv0 : 0 ≤ v := by rw [← hv]; exact stp_nn (how k hk)
  have hv1 : ¬ v = -1 := by intro e; rw [e] at hv0; exact absurd hv0 (by decide)
  have hsame : ∀ d, d < n → (d = k ∨ ¬ g 1122 d = -1) → stp n (ndc h n nw) (twh h n nw 26) ow (w_up g 1122 k v 1122) d = stp n (ndc h n nw) (twh h n nw 26) ow (g 1122) d := by
    intro d hd hor
    refine stp_cong (fun ht hr j hj hnj => w_up_b ?_)
    rintro rfl
    rcases hor with rfl | hor
    · exact hnd _ hj hnj hu
    · exact (h4 d hd hor).2 ht hr _ hj hnj hu
  refine ⟨⟨w_fr_up hf rfl, fun j hj => ?_, fun c hc h5 => ?_, fun c hc h5 => ?_⟩, ?_⟩
  · rw [bt_or, hx j hj, bt_one (by omega)]
    by_cases e : j = k
    · subst e; rw [w_up_at]; simp [hk, hv1]
    · rw [w_up_b e]; simp [e]
  · by_cases e : c = k
    · subst e; rw [w_up_at] at h5; exact absurd h5 hv1
    · rw [w_up_b e] at h5; exact h3 c hc h5
  · by_cases e : c = k
    · subst e
      rw [w_up_at, hsame c hc (Or.inl rfl)]
      refine ⟨hv.symm, fun _ _ j hj hnj => ?_⟩
      by_cases e2 : j = c
      · subst e2; rw [w_up_at]; exact hv1
      · rw [w_up_b e2]; exact hnd j hj hnj
    · rw [w_up_b e] at h5 ⊢
      rw [hsame c hc (Or.inr h5)]
      refine ⟨(h4 c hc h5).1, fun ht hr j hj hnj => ?_⟩
      by_cases e2 : j = k
      · subst e2; rw [w_up_at]; exact hv1
      · rw [w_up_b e2]; exact (h4 c hc h5).2 ht hr j hj hnj
  · refine cnt_lt n (fun j hj h5 => ?_) ⟨k, hk, ?_, by simp [hu]⟩
    · simp only [decide_eq_true_eq] at h5 ⊢
      by_cases e : j = k
      · subst e; exact hu
      · rw [w_up_b e] at h5; exact h5
    · rw [w_up_at]; simp [hv1]
end M39
