/-! ===== values, in the class and in the model ===== -/
/-- a number, or a list -/
abbrev VL : Type := Int32 ⊕ List Int32
/-- the class: at the place i of the values at q -/
def cv (h : Hp) (q i : Nat) : Option VL → Prop
  | none => h (q + 1) i = 0
  | some (.inl n) => h (q + 1) i = 1 ∧ h (q + 2) (i * 8) = n
  | some (.inr l) => l.length ≤ 8 ∧ h (q + 1) i = Int32.ofNat (l.length + 2) ∧ ∀ k, k < l.length → h (q + 2) (i * 8 + k) = l.getD k 0
/-- the model: the nine slots of the row r from o on -/
def mv (m : Hp) (r o : Nat) : Option VL → Prop
  | none => m r o = -2
  | some (.inl n) => m r o = -1 ∧ m r (o + 1) = n
  | some (.inr l) => l.length ≤ 8 ∧ m r o = Int32.ofNat l.length ∧ ∀ k, k < l.length → m r (o + 1 + k) = l.getD k 0
def vNum : Option VL → Bool
  | some (.inl _) => true
  | _ => false
def vLen : Option VL → Nat
  | some (.inr l) => l.length
  | _ => 0
def vTag : Option VL → Nat
  | none => 0
  | some (.inl _) => 1
  | some (.inr l) => l.length + 2
section S68
variable {h m : Hp} {q i : Nat} {v : Option VL}
theorem cv_tag (H : cv h q i v) : h (q + 1) i = Int32.ofNat (vTag v) ∧ vTag v ≤ 10 := by
  cases v with
  | none => exact ⟨H, by decide⟩
  | some v =>
    cases v with
    | inl n => exact ⟨H.1, show 1 ≤ 10 by decide⟩
    | inr l => exact ⟨H.2.1, show l.length + 2 ≤ 10 by have := H.1; omega⟩
theorem c_63 (hi : i < 27) : v_63 h q (Int32.ofNat i) = h (q + 1) i ∧ g_63 q (Int32.ofNat i) = true := by
  unfold v_63 g_63
  have h1 : ¬ Int32.ofNat i < 0 := u_lt0 (by omega)
  have h2 : Int32.ofNat i < 27 := (u_ltL (by omega) (by decide)).mpr hi
  rw [if_neg h1, if_pos h2, if_neg h1, if_pos h2, u_cl (by omega), u_ix hi (by decide)]
  exact ⟨rfl, rfl⟩
theorem c_64 (hi : i < 27) (H : cv h q i v) : v_64 h q (Int32.ofNat i) = ofB (vNum v) ∧ g_64 q (Int32.ofNat i) = true := by
  unfold v_64 g_64
  have h1 : ¬ Int32.ofNat i < 0 := u_lt0 (by omega)
  have h2 : Int32.ofNat i < 27 := (u_ltL (by omega) (by decide)).mpr hi
  obtain ⟨t1, t2⟩ := cv_tag H
  rw [if_neg h1, if_pos h2, if_neg h1, if_pos h2, u_cl (by omega), u_ix hi (by decide), t1]
  refine ⟨?_, rfl⟩
  cases v with
  | none => rfl
  | some v =>
    cases v with
    | inl n => rfl
    | inr l =>
      have h8 := H.1
      have : ¬ Int32.ofNat (l.length + 2) = 1 := fun e => by
        have e2 := (u_inj (b := 1) (by omega) (by decide)).mp e
        omega
      have e3 : (vTag (some (.inr l)) : Nat) = l.length + 2 := rfl
      rw [e3]
      rw [if_neg this]; rfl
theorem c_65 (hi : i < 27) (H : cv h q i v) : v_65 h q (Int32.ofNat i) = Int32.ofNat (vLen v) ∧ g_65 h q (Int32.ofNat i) = true := by
  unfold v_65 g_65
  have h1 : ¬ Int32.ofNat i < 0 := u_lt0 (by omega)
  have h2 : Int32.ofNat i < 27 := (u_ltL (by omega) (by decide)).mpr hi
  obtain ⟨t1, t2⟩ := cv_tag H
  rw [if_neg h1, if_pos h2, if_neg h1, if_pos h2, u_cl (by omega), u_ix hi (by decide), t1]
  refine ⟨?_, by rw [ite_self]; rfl⟩
  cases v with
  | none => rfl
  | some v =>
    cases v with
    | inl n => rfl
    | inr l =>
      have h8 := H.1
      have e2 : (vTag (some (.inr l)) : Nat) = l.length + 2 := rfl
      rw [e2]
      by_cases h0 : l.length = 0
      · show _ = Int32.ofNat l.length
        rw [h0]; rfl
      · have : ¬ Int32.ofNat (l.length + 2) ≤ 2 := fun e => by
          have := (u_leL (a := l.length + 2) (n := 2) (by omega) (by decide)).mp e
          have e3 : l.length + 2 ≤ 2 := this
          omega
        rw [if_neg this]
        have e4 := u_subL (a := l.length + 2) (n := 2) (by omega)
        exact e4
theorem c_66 {k : Nat} (hi : i < 27) (hk : k < 8) : v_66 h q (Int32.ofNat i) (Int32.ofNat k) = h (q + 2) (i * 8 + k) ∧ g_66 q (Int32.ofNat i) (Int32.ofNat k) = true := by
  unfold v_66 g_66
  have h1 : ¬ Int32.ofNat i < 0 := u_lt0 (by omega)
  have h2 : Int32.ofNat i < 27 := (u_ltL (by omega) (by decide)).mpr hi
  have h3 : ¬ Int32.ofNat k < 0 := u_lt0 (by omega)
  have h4 : Int32.ofNat k < 8 := (u_ltL (by omega) (by decide)).mpr hk
  have e : Int32.ofNat i * 8 + Int32.ofNat k = Int32.ofNat (i * 8 + k) := by
    rw [show (8 : Int32) = Int32.ofNat 8 by rfl, u_mul, u_add]
  have o : ¬ (1 : Int32) = 0 := by decide
  rw [if_neg h1, if_pos h2, if_neg h3, if_pos h4, if_neg o, if_neg o, e, u_cl (by omega), u_ix (by omega) (by decide)]
  exact ⟨rfl, rfl⟩
/-- what the values' places leave -/
def vfr (q i : Nat) (h h' : Hp) : Prop := w_fr (fun z => z = q + 1 ∨ z = q + 2) h h' ∧ (∀ k, k ≠ i → h' (q + 1) k = h (q + 1) k) ∧ ∀ b, b < i * 8 ∨ i * 8 + 8 ≤ b → h' (q + 2) b = h (q + 2) b
theorem vfr_refl : vfr q i h h := ⟨w_fr_refl _ _, fun _ _ => rfl, fun _ _ => rfl⟩
theorem vfr_trans {a b d : Hp} (x : vfr q i a b) (y : vfr q i b d) : vfr q i a d := ⟨w_fr_trans x.1 y.1, fun k hk => (y.2.1 k hk).trans (x.2.1 k hk), fun k hk => (y.2.2 k hk).trans (x.2.2 k hk)⟩
/-- another place stays -/
theorem cv_vfr {h' : Hp} {k : Nat} (H : cv h q k v) (f : vfr q i h h') (hk : k ≠ i) : cv h' q k v := by
  have e1 := f.2.1 k hk
  cases v with
  | none => exact e1.trans H
  | some v =>
    cases v with
    | inl n => exact ⟨e1.trans H.1, (f.2.2 _ (by omega)).trans H.2⟩
    | inr l => exact ⟨H.1, e1.trans H.2.1, fun j hj => (f.2.2 _ (by have := H.1; omega)).trans (H.2.2 j hj)⟩
theorem cv_fr {h' : Hp} (H : cv h q i v) (e1 : h' (q + 1) = h (q + 1)) (e2 : h' (q + 2) = h (q + 2)) : cv h' q i v := by
  cases v with
  | none => unfold cv at H ⊢; rw [e1]; exact H
  | some v => cases v <;> (unfold cv at H ⊢; rw [e1, e2]; exact H)
theorem c_68 {n : Int32} (hi : i < 27) : ∃ h', p_68 h q (Int32.ofNat i) n = some h' ∧ cv h' q i (some (.inl n)) ∧ vfr q i h h' := by
  unfold p_68
  have h1 : ¬ Int32.ofNat i < 0 := u_lt0 (by omega)
  have h2 : Int32.ofNat i < 27 := (u_ltL (by omega) (by decide)).mpr hi
  have e : Int32.ofNat i * 8 = Int32.ofNat (i * 8) := by rw [show (8 : Int32) = Int32.ofNat 8 by rfl, u_mul]
  rw [if_neg h1, if_pos h2, e]
  simp (disch := omega) only [u_ix, u_cl, w_gd, w_let]
  refine ⟨_, rfl, ⟨?_, w_up_at⟩, fun z hz => ?_, fun k hk => ?_, fun b hb => ?_⟩
  · rw [w_up_q (by omega), w_up_at]
  · funext b
    rw [w_up_q (by omega), w_up_q (by omega)]
  · rw [w_up_q (by omega), w_up_b hk]
  · rw [w_up_b (by omega), w_up_q (by omega)]
theorem c_69 (hi : i < 27) : ∃ h', p_69 h q (Int32.ofNat i) = some h' ∧ cv h' q i (some (.inr [])) ∧ vfr q i h h' := by
  unfold p_69
  have h1 : ¬ Int32.ofNat i < 0 := u_lt0 (by omega)
  have h2 : Int32.ofNat i < 27 := (u_ltL (by omega) (by decide)).mpr hi
  rw [if_neg h1, if_pos h2]
  simp (disch := omega) only [u_ix, u_cl, w_gd, w_let]
  refine ⟨_, rfl, ⟨by decide, w_up_at, fun k hk => absurd hk (Nat.not_lt_zero k)⟩, fun z hz => ?_, fun k hk => ?_, fun b hb => ?_⟩
  · funext b
    rw [w_up_q (by omega)]
  · rw [w_up_b hk]
  · rw [w_up_q (by omega)]
theorem c_70 {n : Int32} {l : List Int32} (hi : i < 27) (H : cv h q i (some (.inr l))) (hl : l.length < 8) : ∃ h', p_70 h q (Int32.ofNat i) n = some h' ∧ cv h' q i (some (.inr (l ++ [n]))) ∧ vfr q i h h' := by
  obtain ⟨-, t, e⟩ := H
  unfold p_70 q_70_13
  have h1 : ¬ Int32.ofNat i < 0 := u_lt0 (by omega)
  have h2 : Int32.ofNat i < 27 := (u_ltL (by omega) (by decide)).mpr hi
  have h3 : ¬ Int32.ofNat l.length < 0 := u_lt0 (by omega)
  have h4 : Int32.ofNat l.length < 8 := (u_ltL (by omega) (by decide)).mpr hl
  have e2 : Int32.ofNat (l.length + 2) - 2 = Int32.ofNat l.length := by
    have := u_subL (a := l.length + 2) (n := 2) (by omega)
    exact this
  have e3 : Int32.ofNat i * 8 + Int32.ofNat l.length = Int32.ofNat (i * 8 + l.length) := by
    rw [show (8 : Int32) = Int32.ofNat 8 by rfl, u_mul, u_add]
  have e4 : Int32.ofNat (l.length + 2) + 1 = Int32.ofNat ((l ++ [n]).length + 2) := by rw [u_S, List.length_append, List.length_singleton]
  rw [if_neg h1, if_pos h2, if_neg h1, if_pos h2]
  simp (disch := omega) only [u_ix, u_cl, w_gd, t, e2, if_neg h3, if_pos h4, e3, w_let, w_up_q, e4]
  refine ⟨_, rfl, ⟨?_, w_up_at, fun k hk => ?_⟩, fun z hz => ?_, fun k hk => ?_, fun b hb => ?_⟩
  · rw [List.length_append, List.length_singleton]; omega
  · rw [List.length_append, List.length_singleton] at hk
    rw [w_up_q (by omega)]
    by_cases c : k = l.length
    · subst c
      rw [w_up_at, List.getD_eq_getElem?_getD, List.getElem?_append_right (Nat.le_refl _), Nat.sub_self]
      rfl
    · rw [w_up_b (by omega), e k (by omega), List.getD_eq_getElem?_getD, List.getD_eq_getElem?_getD, List.getElem?_append_left (by omega)]
  · funext b
    rw [w_up_q (by omega), w_up_q (by omega)]
  · rw [w_up_b hk, w_up_q (by omega)]
  · rw [w_up_q (by omega), w_up_b (by omega)]
end S68
