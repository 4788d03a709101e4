/-! ===== the class's machine: answers; every step ===== -/
/-- the answers so far, in the class: R is the run that is kept -/
def dc (h : Hp) (R : Nat) (p : DP) (d : DR) : Prop := 40 < R ∧ R < 100000 ∧ w_tag R = 2 ∧ h 40 2 = Int32.ofNat R ∧ h 40 3 = Int32.ofNat d.1 ∧ d.1 ≤ 40 ∧ h 40 4 = Int32.ofNat p.2.1.length ∧ p.2.1.length ≤ 40 ∧ (h 40 5 = 0 ↔ p.1 = true) ∧ h 40 0 = d.2.1 ∧ h 40 1 = p.2.2 ∧ d.2.2.length = d.1 ∧ (p.1 = false → (∀ i, i < d.1 → h (R + 3) i = d.2.2.getD i 0) ∧ (0 < d.1 → h R 2 = Int32.ofNat d.1)) ∧ ∀ i, d.1 ≤ i → i < p.2.1.length → h (R + 3) i = p.2.1.getD i 0
/-- what a run of the machine leaves -/
def rfx (R : Nat) (h h' : Hp) : Prop := w_fr (fun q => xP q ∨ q = 40 ∨ q = R ∨ q = R + 3) h h' ∧ (∀ b, b ≠ 2 → h' 28 b = h 28 b) ∧ (∀ b, b ≠ 0 → b ≠ 3 → h' 40 b = h 40 b) ∧ (∀ b, b ≠ 2 → h' R b = h R b) ∧ (h 40 5 = 0 → h' R = h R ∧ h' (R + 3) = h (R + 3) ∧ h' 40 0 = h 40 0)
section S73
variable {h h' : Hp} {P : PM} {p : DP} {R : Nat}
theorem rfx_refl : rfx R h h := ⟨w_fr_refl _ _, fun _ _ => rfl, fun _ _ _ => rfl, fun _ _ => rfl, fun _ => ⟨rfl, rfl, rfl⟩⟩
theorem rfx_trans {a b d : Hp} (x : rfx R a b) (y : rfx R b d) : rfx R a d := ⟨w_fr_trans x.1 y.1, fun k hk => (y.2.1 k hk).trans (x.2.1 k hk), fun k h1 h2 => (y.2.2.1 k h1 h2).trans (x.2.2.1 k h1 h2), fun k hk => (y.2.2.2.1 k hk).trans (x.2.2.2.1 k hk), fun h0 => by
  obtain ⟨a1, a2, a3⟩ := x.2.2.2.2 h0
  obtain ⟨b1, b2, b3⟩ := y.2.2.2.2 (by rw [x.2.2.1 5 (by decide) (by decide)]; exact h0)
  exact ⟨b1.trans a1, b2.trans a2, b3.trans a3⟩⟩
theorem rfx_x (hR : 40 < R) (f : xfr h h') : rfx R h h' := by
  refine ⟨w_fr_mono f.1 (fun z hz => Or.inl hz), f.2, fun b _ _ => ?_, fun b _ => ?_, fun _ => ⟨f.1 R (by unfold xP; omega), f.1 (R + 3) (by unfold xP; omega), ?_⟩⟩
  · rw [f.1 40 (by unfold xP; omega)]
  · rw [f.1 R (by unfold xP; omega)]
  · rw [f.1 40 (by unfold xP; omega)]
theorem dc_x {d : DR} (H : dc h R p d) (f : xfr h h') : dc h' R p d := by
  have h40 := H.1
  have e1 := f.1 40 (by unfold xP; omega)
  have e2 := f.1 R (by unfold xP; omega)
  have e3 := f.1 (R + 3) (by unfold xP; omega)
  unfold dc at H ⊢
  rw [e1, e2, e3]; exact H
theorem x_54 {k : Int32} (hk : k = 0 ∨ k = 1) {d : DR} (H : dc h R p d) (hd : d.1 < 40) : ∃ h', p_54 h k = some ((drw p k d).1, h') ∧ dc h' R p (drw p k d).2 ∧ rfx R h h' ∧ (∀ q, q < 40 → h' q = h q) := by
  obtain ⟨r1, r2, r3, r4, r5, r6, r7, r8, r9, r10, r11, r12, r13, r14⟩ := H
  -- the step behind the answer x; g has the random state
  have tl : ∀ (g : Hp) (x rn : Int32), drx p k d = (x, rn) → g = w_up h 40 0 rn → ∃ h', q_54_47 g x = some (x, h') ∧ dc h' R p (d.1 + 1, rn, d.2.2 ++ [x]) ∧ rfx R h h' ∧ (∀ q, q < 40 → h' q = h q) := by
    intro g x rn hdx hg
    have g5 : g 40 5 = h 40 5 := by subst hg; exact w_up_b (by decide)
    have g3 : g 40 3 = Int32.ofNat d.1 := by subst hg; rw [w_up_b (by decide)]; exact r5
    have g2 : g 40 2 = Int32.ofNat R := by subst hg; rw [w_up_b (by decide)]; exact r4
    have len1 : (d.2.2 ++ [x]).length = d.1 + 1 := by rw [List.length_append, r12]; rfl
    unfold q_54_47 q_54_64
    by_cases hm : p.1 = true
    · rw [if_pos (by rw [g5]; exact r9.mpr hm)]
      simp only [w_let, g3, u_S]
      subst hg
      refine ⟨_, rfl, ⟨r1, r2, r3, ?_, w_up_at, hd, ?_, r8, ?_, ?_, ?_, len1, fun hf => (by rw [hm] at hf; cases hf), fun i h1 h2 => ?_⟩, ⟨fun q hq => funext fun b => ?_, fun b _ => ?_, fun b h1 h2 => ?_, fun b _ => ?_, fun _ => ⟨funext fun b => ?_, funext fun b => ?_, ?_⟩⟩, fun q hq => funext fun b => ?_⟩
      · simp (disch := omega) only [w_up_b]; exact r4
      · simp (disch := omega) only [w_up_b]; exact r7
      · simp (disch := omega) only [w_up_b]; exact r9
      · simp (disch := omega) only [w_up_b, w_up_at]
      · simp (disch := omega) only [w_up_b]; exact r11
      · have h1' : d.1 + 1 ≤ i := h1
        simp (disch := omega) only [w_up_q]; exact r14 i (by omega) h2
      · have : q ≠ 40 := fun e => hq (Or.inr (Or.inl e))
        simp (disch := omega) only [w_up_q]
      · simp (disch := omega) only [w_up_q]
      · simp (disch := omega) only [w_up_b]
      · simp (disch := omega) only [w_up_q]
      · simp (disch := omega) only [w_up_q]
      · simp (disch := omega) only [w_up_q]
      · simp (disch := omega) only [w_up_b, w_up_at]
        have : rn = d.2.1 := by
          have e := congrArg Prod.snd hdx
          unfold drx at e
          rw [if_pos hm] at e
          split at e <;> exact e.symm
        rw [this, r10]
      · simp (disch := omega) only [w_up_q]
    · have hm' : p.1 = false := by simpa using hm
      rw [if_neg (by rw [g5]; exact fun e => hm (r9.mp e)), g2, u_cl (by omega), r3, g3]
      simp (disch := omega) only [w_let, w_gd, u_ix, u_cl, w_up_q, g2, g3, u_S, r3]
      have t : (2 == 2 && 2 != 999) = true := by decide
      rw [t]
      simp (disch := omega) only [w_gd, w_up_q, g3, u_S]
      obtain ⟨s1, s2⟩ := r13 hm'
      subst hg
      refine ⟨_, rfl, ⟨r1, r2, r3, ?_, w_up_at, hd, ?_, r8, ?_, ?_, ?_, len1, fun _ => ⟨fun i hi => ?_, fun _ => ?_⟩, fun i h1 h2 => ?_⟩, ⟨fun q hq => funext fun b => ?_, fun b _ => ?_, fun b h1 h2 => ?_, fun b hb => ?_, fun h5 => absurd (r9.mp h5) hm⟩, fun q hq => funext fun b => ?_⟩
      · simp (disch := omega) only [w_up_b, w_up_q]; exact r4
      · simp (disch := omega) only [w_up_b, w_up_q]; exact r7
      · simp (disch := omega) only [w_up_b, w_up_q]; exact r9
      · simp (disch := omega) only [w_up_b, w_up_q, w_up_at]
      · simp (disch := omega) only [w_up_b, w_up_q]; exact r11
      · have hi' : i < d.1 + 1 := hi
        simp (disch := omega) only [w_up_q]
        by_cases c : i = d.1
        · subst c
          rw [w_up_at, List.getD_eq_getElem?_getD, List.getElem?_append_right (by omega), r12, Nat.sub_self]; rfl
        · rw [w_up_b c, w_up_q (by omega), s1 i (by omega), List.getD_eq_getElem?_getD, List.getD_eq_getElem?_getD, List.getElem?_append_left (by omega)]
      · simp (disch := omega) only [w_up_q, w_up_at]
      · have h1' : d.1 + 1 ≤ i := h1
        simp (disch := omega) only [w_up_q]
        rw [w_up_b (by omega), w_up_q (by omega)]
        exact r14 i (by omega) h2
      · have n1 : q ≠ 40 := fun e => hq (Or.inr (Or.inl e))
        have n2 : q ≠ R := fun e => hq (Or.inr (Or.inr (Or.inl e)))
        have n3 : q ≠ R + 3 := fun e => hq (Or.inr (Or.inr (Or.inr e)))
        simp (disch := omega) only [w_up_q]
      · simp (disch := omega) only [w_up_q]
      · simp (disch := omega) only [w_up_b, w_up_q]
      · simp (disch := omega) only [w_up_b, w_up_q]
      · simp (disch := omega) only [w_up_q]
  have h0 : w_up h 40 0 d.2.1 = h := by rw [← r10, w_up_self]
  have lt40 : Int32.ofNat d.1 < 40 := (u_ltL (by omega) (by decide)).mpr hd
  unfold p_54
  rw [r5, if_pos lt40, r7]
  by_cases c1 : d.1 < p.2.1.length
  · rw [if_pos ((u_lt (by omega) (by omega)).mpr c1), r4, u_cl (by omega), u_cl (by omega), r3, u_ix hd (by decide)]
    have t : (2 == 2 && 2 != 999) = true := by decide
    rw [t]
    simp only [w_gd]
    have ex : drx p k d = (p.2.1.getD d.1 0, d.2.1) := by unfold drx; rw [if_pos c1]
    obtain ⟨h', a1, a2, a3, a4⟩ := tl h _ _ ex h0.symm
    rw [r14 d.1 (Nat.le_refl _) c1]
    unfold drw; rw [ex]
    exact ⟨h', a1, a2, a3, a4⟩
  · rw [if_neg (fun e => c1 ((u_lt (by omega) (by omega)).mp e))]
    by_cases c2 : p.1 = true
    · rw [if_pos (r9.mpr c2)]
      have ex : drx p k d = (0, d.2.1) := by unfold drx; rw [if_neg c1, if_pos c2]
      obtain ⟨h', a1, a2, a3, a4⟩ := tl h _ _ ex h0.symm
      unfold drw; rw [ex]
      exact ⟨h', a1, a2, a3, a4⟩
    · rw [if_neg (fun e => c2 (r9.mp e))]
      unfold q_54_38 q_54_46
      simp only [w_let, w_up_at]
      rcases hk with rfl | rfl
      · have ex : drx p 0 d = (nxt d.2.1, nxt d.2.1) := by unfold drx; rw [if_neg c1, if_neg c2, if_pos rfl]
        rw [if_pos rfl, if_pos rfl, r10]
        obtain ⟨h', a1, a2, a3, a4⟩ := tl (w_up h 40 0 (nxt d.2.1)) _ _ ex rfl
        unfold drw; rw [ex]
        exact ⟨h', a1, a2, a3, a4⟩
      · have ex : drx p 1 d = (p.2.2, d.2.1) := by unfold drx; rw [if_neg c1, if_neg c2, if_neg (by decide)]
        rw [if_neg (by decide), if_neg (by decide), r10, h0, r11]
        obtain ⟨h', a1, a2, a3, a4⟩ := tl h _ _ ex h0.symm
        unfold drw; rw [ex]
        exact ⟨h', a1, a2, a3, a4⟩
end S73
