/-! ===== at the start all is coupled ===== -/
section SD5
variable {z b c q i o : Nat}
theorem i_big (h1 : 52 ≤ z) (h2 : z ≠ 1076) : w_h0 z b = 0 := h0_z h1 h2
theorem i_mod (h : b ≠ 31) : w_h0 1076 b = 0 := by
  unfold w_h0
  repeat rw [if_neg (by omega)]
theorem i_low (h : z ≠ 17) (h1 : z ≠ 28) (h2 : z ≠ 35) (h3 : z ≠ 40) (h4 : z ≠ 1076) : w_h0 z b = 0 := by
  unfold w_h0
  repeat rw [if_neg (by omega)]
theorem i_m31 : w_h0 1076 31 = 1 := by decide
theorem i_400 : w_h0 40 0 = 1 := by decide
theorem i_401 : w_h0 40 1 = 0 := by decide
theorem i_tx (h : z ≠ 17) (h1 : z ≠ 28) (h2 : z ≠ 35) (h3 : z ≠ 40) (h4 : z ≠ 1076) : tx w_h0 z [] := ⟨by decide, by rw [i_low h h1 h2 h3 h4]; rfl, fun i hi => absurd hi (Nat.not_lt_zero i), fun i hi => absurd hi (Nat.not_lt_zero i)⟩
theorem i_vld (h1 : 1077 ≤ q) : vld w_h0 q := fun j x _ _ => ⟨some (.inr []), by decide, by rw [i_big (by omega) (by omega)]; rfl, fun k hk => absurd hk (Nat.not_lt_zero k)⟩
theorem i_pl (hc : c < 16) : PL w_h0 w_h0 0 0 0 c := by
  refine ⟨⟨0, 0, fun _ => ([], fun _ => none, fun _ => none), ?_, fun _ => rfl⟩, ⟨[], [], ?_, ?_⟩, ⟨?_, 0, 0, Nat.le_refl 0, Nat.le_refl 0, ?_, ?_, ?_⟩, ⟨?_, ?_, ?_, ?_⟩, ⟨0, Nat.le_refl 0, ?_⟩, ?_⟩
  · refine ⟨by decide, by decide, fun _ => rfl, ?_, ?_, ?_, fun i hi => absurd hi (Nat.not_lt_zero i), fun s t hs => absurd hs (Nat.not_lt_zero s)⟩
    · rw [i_big (by omega) (by omega)]; rfl
    · rw [i_big (by omega) (by omega)]; rfl
    · rw [i_big (by omega) (by omega)]; rfl
  · refine ⟨i_tx (by omega) (by omega) (by omega) (by omega) (by omega), by decide, ?_, fun i hi => absurd hi (Nat.not_lt_zero i)⟩
    rw [i_big (by omega) (by omega)]; rfl
  · refine ⟨by decide, fun i hi => absurd hi (Nat.not_lt_zero i), ?_, ?_, by decide, fun i hi => absurd hi (Nat.not_lt_zero i)⟩
    · rw [i_big (by omega) (by omega)]; rfl
    · rw [i_big (by omega) (by omega)]; rfl
  · rw [i_big (by omega) (by omega), i_big (by omega) (by omega)]
  · rw [i_big (by omega) (by omega)]; rfl
  · rw [i_big (by omega) (by omega)]; rfl
  · intro w _ hb
    rw [i_big (by omega) (by omega), bt_zero] at hb; cases hb
  · rw [i_big (by omega) (by omega), i_big (by omega) (by omega)]
  · exact Or.inl (i_big (by omega) (by omega))
  · intro _; exact i_big (by omega) (by omega)
  · intro h; exact absurd (i_big (by omega) (by omega)) h
  · rw [i_big (by omega) (by omega)]; rfl
  · intro _; exact ⟨i_big (by omega) (by omega), i_big (by omega) (by omega), i_big (by omega) (by omega), i_big (by omega) (by omega)⟩
theorem i_dfh {x j : Nat} : dfh w_h0 0 0 x j = false := by
  unfold dfh
  by_cases h1 : 16 ≤ j
  · have h2 : ¬ j < 16 + 0 := by omega
    simp [h2]
  · simp [h1]
theorem i_chh {x j : Nat} : chh w_h0 0 x j = false := by
  unfold chh; simp
theorem i_twh {j : Nat} : twh w_h0 0 0 26 j = false := by
  cases h : twh w_h0 0 0 26 j with
  | false => rfl
  | true =>
    have := tw_lt (Nat.zero_le 16) h
    omega
theorem i_jok : JOK w_h0 0 0 := by
  refine ⟨by decide, by decide, by decide, by decide, by decide, fun x _ => ⟨fun j => ?_, fun j => ?_⟩, fun j => ?_, fun c hc => absurd hc (Nat.not_lt_zero c), fun j => ?_, by decide, fun i hi => absurd hi (by simp [ordl])⟩
  · rw [i_low (by omega) (by omega) (by omega) (by omega) (by omega), bt_zero, i_dfh]
  · rw [i_low (by omega) (by omega) (by omega) (by omega) (by omega), bt_zero, i_chh]
  · rw [i_low (by omega) (by omega) (by omega) (by omega) (by omega), bt_zero, i_twh]
  · rw [i_low (by omega) (by omega) (by omega) (by omega) (by omega), bt_zero]; simp
theorem i_cp : CP w_h0 w_h0 0 0 0 0 := by
  have l : ∀ {z b : Nat}, z ≠ 17 → z ≠ 28 → z ≠ 35 → z ≠ 40 → z ≠ 1076 → w_h0 z b = 0 := fun a b c d e => i_low a b c d e
  refine ⟨⟨by decide, by decide⟩, i_jok, ⟨by decide, by decide, by decide, by decide, fun c hc => absurd hc (Nat.not_lt_zero c), fun w hw => absurd hw (Nat.not_lt_zero w), fun w _ hw => absurd hw (Nat.not_lt_zero w)⟩, ⟨fun w hw => absurd hw (Nat.not_lt_zero w), fun c hc => absurd hc (Nat.not_lt_zero c), fun c _ hc => absurd hc (Nat.not_lt_zero c)⟩, ?_, ?_, ?_, ?_, fun c hc => i_pl hc, fun c hc => absurd hc (Nat.not_lt_zero c), i_vld (by decide), i_vld (by decide), fun c hc => absurd hc (Nat.not_lt_zero c)⟩
  · exact ⟨by decide, by decide, by decide, by decide, by decide, by decide, by decide, by decide⟩
  · exact ⟨by decide, by decide, by decide, by decide, fun _ c hc => absurd hc (Nat.not_lt_zero c)⟩
  · refine ⟨fun w hw => absurd hw (Nat.not_lt_zero w), fun w hw => ?_, fun w hw => ?_, fun v w hv hw => ?_⟩
    · rw [l (by omega) (by omega) (by omega) (by omega) (by omega), bt_zero] at hw; cases hw
    · rw [l (by omega) (by omega) (by omega) (by omega) (by omega), bt_zero, l (by omega) (by omega) (by omega) (by omega) (by omega)]
      exact ⟨rfl, Or.inl rfl⟩
    · rw [l (by omega) (by omega) (by omega) (by omega) (by omega), bt_zero, l (by omega) (by omega) (by omega) (by omega) (by omega), l (by omega) (by omega) (by omega) (by omega) (by omega)]
      exact ⟨rfl, rfl, fun _ => rfl⟩
  · intro i hi
    exact ⟨[], i_tx (by omega) (by omega) (by omega) (by omega) (by omega), by rw [i_big (by omega) (by omega)]; rfl, fun j hj => absurd hj (Nat.not_lt_zero j)⟩
theorem i_ci : CI 0 w_h0 w_h0 := ⟨0, 0, 0, i_cp⟩
end SD5
