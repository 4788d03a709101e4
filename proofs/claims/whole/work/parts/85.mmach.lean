/-! ===== the model's machine: an operator is put; answers ===== -/
section S85
variable {m m' : Hp} {p : DP}
/-- what putting an operator leaves -/
def opf (m m' : Hp) : Prop := w_fr (fun q => q = 1128 ∨ q = 1129 ∨ q = 1076) m m' ∧ ∀ b, b ≠ 70 → m' 1076 b = m 1076 b
theorem m_203 {O : List (Int32 × Nat)} {x : Int32} (HO : mk m O) (hO : O.length < 80) (h70 : m 1076 70 = Int32.ofNat O.length) : ∃ m', p_203 m x = some m' ∧ mk m' ((x, 1) :: O) ∧ m' 1076 70 = Int32.ofNat (O.length + 1) ∧ opf m m' := by
  unfold p_203
  simp (disch := omega) only [w_let, h70, u_ix, u_cl, w_gd, w_up_q, u_S]
  refine ⟨_, rfl, ⟨?_, ?_, by decide, ?_⟩, w_up_at, fun q hq => funext fun b => ?_, fun b hb => ?_⟩
  · rw [w_up_q (by decide), w_up_q (by decide), w_up_at]
  · rw [w_up_q (by decide), w_up_at]; rfl
  · exact mk_up O (mk_up O (mk_up O HO (Or.inr (Nat.le_refl _))) (Or.inr (Nat.le_refl _))) (Or.inl rfl)
  · have n1 : q ≠ 1128 := fun e => hq (Or.inl e)
    have n2 : q ≠ 1129 := fun e => hq (Or.inr (Or.inl e))
    have n3 : q ≠ 1076 := fun e => hq (Or.inr (Or.inr e))
    rw [w_up_q n3, w_up_q n2, w_up_q n1]
  · rw [w_up_b hb, w_up_q (by decide), w_up_q (by decide)]
/-- the answers so far, in the model; the cell is c -/
def dm (m : Hp) (c : Nat) (p : DP) (d : DR) : Prop := c < 16 ∧ m 1076 77 = Int32.ofNat c ∧ m 1076 30 = Int32.ofNat d.1 ∧ d.1 ≤ 40 ∧ m 1076 28 = Int32.ofNat p.2.1.length ∧ p.2.1.length ≤ 40 ∧ (m 1076 29 = 2 ↔ p.1 = true) ∧ (p.2.1.length = 0 ∨ ¬ m 1076 29 = 0) ∧ m 1076 31 = d.2.1 ∧ m 1076 32 = p.2.2 ∧ d.2.2.length = d.1 ∧ (p.1 = false → ∀ i, i < d.1 → m 1095 (40 * c + i) = d.2.2.getD i 0) ∧ ∀ i, i < p.2.1.length → m 1099 i = p.2.1.getD i 0
/-- what giving an answer leaves -/
def dmf (c : Nat) (m m' : Hp) : Prop := w_fr (fun q => q = 1095 ∨ q = 1076) m m' ∧ (∀ b, b ≠ 30 → b ≠ 31 → m' 1076 b = m 1076 b) ∧ ∀ b, b < 40 * c ∨ 40 * c + 40 ≤ b ∨ m 1076 29 = 2 → m' 1095 b = m 1095 b
theorem m_198t {c : Nat} {d : DR} (g : Hp) (x rn : Int32) (H : dm m c p d) (hd : d.1 < 40) (hg : g = w_up m 1076 31 rn) : ∃ m', q_198_49 g x = some (x, m') ∧ dm m' c p (d.1 + 1, rn, d.2.2 ++ [x]) ∧ dmf c m m' := by
  obtain ⟨r1, r2, r3, r4, r5, r6, r7, r8, r9, r10, r11, r12, r13⟩ := H
  have gb : ∀ b, b ≠ 31 → g 1076 b = m 1076 b := fun b hb => by subst hg; exact w_up_b hb
  have gq : ∀ q, q ≠ 1076 → g q = m q := fun q hq => by subst hg; exact funext fun b => w_up_q hq
  have g31 : g 1076 31 = rn := by subst hg; exact w_up_at
  have len1 : (d.2.2 ++ [x]).length = d.1 + 1 := by rw [List.length_append, r11]; rfl
  unfold q_198_49 q_198_64
  rw [gb 29 (by decide)]
  by_cases hm : p.1 = true
  · rw [if_pos (r7.mpr hm)]
    simp only [w_let]
    rw [gb 30 (by decide), r3, u_S]
    refine ⟨_, rfl, ⟨r1, ?_, w_up_at, hd, ?_, r6, ?_, ?_, ?_, ?_, len1, fun hf => (by rw [hm] at hf; cases hf), fun i hi => ?_⟩, fun q hq => funext fun b => ?_, fun b h1 h2 => ?_, fun b hb => ?_⟩
    · rw [w_up_b (by decide), gb _ (by decide)]; exact r2
    · rw [w_up_b (by decide), gb _ (by decide)]; exact r5
    · rw [w_up_b (by decide), gb _ (by decide)]; exact r7
    · rw [w_up_b (by decide), gb _ (by decide)]; exact r8
    · rw [w_up_b (by decide)]; exact g31
    · rw [w_up_b (by decide), gb _ (by decide)]; exact r10
    · rw [w_up_q (by decide), gq _ (by decide)]; exact r13 i hi
    · have n3 : q ≠ 1076 := fun e => hq (Or.inr e)
      rw [w_up_q n3, gq _ n3]
    · rw [w_up_b h1, gb _ h2]
    · rw [w_up_q (by decide), gq _ (by decide)]
  · have hm' : p.1 = false := by simpa using hm
    rw [if_neg (fun e => hm (r7.mp e)), gb 77 (by decide), gb 30 (by decide), r2, r3, u_40, u_ix (by omega) (by decide), u_cl (by omega)]
    simp only [w_gd, w_let]
    have s1 := r12 hm'
    rw [w_up_q (by decide), gb 30 (by decide), r3, u_S]
    refine ⟨_, rfl, ⟨r1, ?_, w_up_at, hd, ?_, r6, ?_, ?_, ?_, ?_, len1, fun _ i hi => ?_, fun i hi => ?_⟩, fun q hq => funext fun b => ?_, fun b h1 h2 => ?_, fun b hb => ?_⟩
    · rw [w_up_b (by decide), w_up_q (by decide), gb _ (by decide)]; exact r2
    · rw [w_up_b (by decide), w_up_q (by decide), gb _ (by decide)]; exact r5
    · rw [w_up_b (by decide), w_up_q (by decide), gb _ (by decide)]; exact r7
    · rw [w_up_b (by decide), w_up_q (by decide), gb _ (by decide)]; exact r8
    · rw [w_up_b (by decide), w_up_q (by decide)]; exact g31
    · rw [w_up_b (by decide), w_up_q (by decide), gb _ (by decide)]; exact r10
    · have hi' : i < d.1 + 1 := hi
      rw [w_up_q (by decide)]
      by_cases e : i = d.1
      · subst e
        show _ = (d.2.2 ++ [x]).getD d.1 0
        rw [w_up_at, List.getD_eq_getElem?_getD, List.getElem?_append_right (by omega), r11, Nat.sub_self]; rfl
      · show _ = (d.2.2 ++ [x]).getD i 0
        rw [w_up_b (by omega), gq _ (by decide), s1 i (by omega), List.getD_eq_getElem?_getD, List.getD_eq_getElem?_getD, List.getElem?_append_left (by omega)]
    · rw [w_up_q (by decide), w_up_q (by decide), gq _ (by decide)]; exact r13 i hi
    · have n1 : q ≠ 1095 := fun e => hq (Or.inl e)
      have n3 : q ≠ 1076 := fun e => hq (Or.inr e)
      rw [w_up_q n3, w_up_q n1, gq _ n3]
    · rw [w_up_b h1, w_up_q (by decide), gb _ h2]
    · have hb' : b < 40 * c ∨ 40 * c + 40 ≤ b := hb.elim Or.inl (fun h => h.elim Or.inr (fun h => absurd (r7.mp h) hm))
      rw [w_up_q (by decide), w_up_b (by omega), gq _ (by decide)]
end S85
