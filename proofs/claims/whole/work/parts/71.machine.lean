/-! ===== the class's machine: steps ===== -/
section S71
variable {h h' : Hp} {P : PM} {p : DP}
theorem k_1 {st : List VL} {v : VL} (H : pm h P) (e : P.2.1 = v :: st) : h 28 2 - 1 = Int32.ofNat st.length ∧ st.length < 27 ∧ cv h 32 st.length (some v) ∧ stk h st := by
  have h27 := H.2.2.2.1
  have hs := H.2.1
  rw [e] at h27 hs
  have hl : st.length + 1 ≤ 27 := h27
  refine ⟨?_, by omega, hs.1, hs.2⟩
  rw [H.2.2.1, e]
  have := u_subL (a := st.length + 1) (n := 1) (by omega)
  exact this
theorem k_2 {st : List VL} {v w : VL} (H : pm h P) (e : P.2.1 = w :: v :: st) : h 28 2 - 2 = Int32.ofNat st.length ∧ st.length + 1 < 27 ∧ cv h 32 st.length (some v) ∧ stk h st := by
  have h27 := H.2.2.2.1
  have hs := H.2.1
  rw [e] at h27 hs
  have hl : st.length + 1 + 1 ≤ 27 := h27
  refine ⟨?_, by omega, hs.2.1, hs.2.2⟩
  rw [H.2.2.1, e]
  have := u_subL (a := st.length + 1 + 1) (n := 2) (by omega)
  exact this
theorem ofB_1 : ofB true = 1 := rfl
theorem ofB_n : ofB false = 0 := rfl
theorem x_22 {k : Int32} (hk : k = 4 ∨ k = 5 ∨ k = 6) (H : pm h P) {d : Int32} {r : Int32 × PM} (hx : xs p k d P = some r) : ∃ h', p_22 h k = some (r.1, h') ∧ pm h' r.2 ∧ xfr h h' := by
  have hx2 : (match P.2.1 with
    | .inl b :: .inl a :: st => some (0, P.1, .inl (opr k a b) :: st, P.2.2)
    | _ :: _ :: _ => some (2, P)
    | _ => none) = some r := by
    rw [← hx]; unfold xs
    rcases hk with rfl | rfl | rfl <;> rfl
  cases es : P.2.1 with
  | nil => rw [es] at hx2; cases hx2
  | cons w st1 =>
    cases es1 : st1 with
    | nil => rw [es, es1] at hx2; cases w <;> cases hx2
    | cons v st =>
      rw [es1] at es
      rw [es] at hx2
      obtain ⟨a1, a2, a3, a4⟩ := k_1 H es
      obtain ⟨b1, b2, b3, b4⟩ := k_2 H es
      have a1' : h 28 2 - 1 = Int32.ofNat (st.length + 1) := a1
      have a3' : cv h 32 (st.length + 1) (some w) := a3
      obtain ⟨c1, c2⟩ := c_64 (show st.length < 27 by omega) b3
      obtain ⟨d1, d2⟩ := c_64 b2 a3'
      unfold p_22
      rw [b1, a1', c1, c2, d1, d2]
      simp only [w_gd]
      cases v with
      | inr l =>
        have : r = (2, P) := by cases w <;> (cases hx2; rfl)
        subst this
        rw [if_pos (by rfl)]
        exact ⟨h, rfl, H, xfr_refl⟩
      | inl a =>
        rw [if_neg (show ¬ ofB (vNum (some (Sum.inl a : VL))) = 0 from (by decide : ¬ ofB true = 0))]
        cases w with
        | inr l =>
          cases hx2
          rw [if_pos (by rfl)]
          exact ⟨h, rfl, H, xfr_refl⟩
        | inl b =>
          cases hx2
          rw [if_neg (show ¬ ofB (vNum (some (Sum.inl b : VL))) = 0 from (by decide : ¬ ofB true = 0))]
          obtain ⟨e1, e2⟩ := c_66 (h := h) (q := 32) (i := st.length) (k := 0) (by omega) (by decide)
          obtain ⟨f1, f2⟩ := c_66 (h := h) (q := 32) (i := st.length + 1) (k := 0) b2 (by decide)
          have e1' : v_66 h 32 (Int32.ofNat st.length) 0 = a := e1.trans b3.2
          have f1' : v_66 h 32 (Int32.ofNat (st.length + 1)) 0 = b := f1.trans a3'.2
          have e2' : g_66 32 (Int32.ofNat st.length) 0 = true := e2
          have f2' : g_66 32 (Int32.ofNat (st.length + 1)) 0 = true := f2
          rw [e2', f2', e1', f1']
          simp only [w_gd]
          unfold q_22_54
          obtain ⟨h1, g1, g2, g3⟩ := c_68 (h := h) (q := 32) (i := st.length) (n := opr k a b) (by omega)
          have g1' : p_68 h 32 (Int32.ofNat st.length) (if k = 4 then a + b else if k = 5 then a - b else a * b) = some h1 := g1
          rw [g1']
          simp only [Option.bind_some, w_let]
          exact ⟨_, rfl, pm_top H b4 rfl (by omega) g2 g3 rfl, xfr_trans (xfr_v g3) xfr_2⟩
/-- the top is replaced by a number -/
theorem pm_rep {st : List VL} {v : VL} {n : Int32} (H : pm h P) (e : P.2.1 = v :: st) : ∃ h', p_68 h 32 (h 28 2 - 1) n = some h' ∧ pm h' (P.1, .inl n :: st, P.2.2) ∧ xfr h h' := by
  obtain ⟨a1, a2, a3, a4⟩ := k_1 H e
  obtain ⟨h1, g1, g2, g3⟩ := c_68 (h := h) (q := 32) (i := st.length) (n := n) a2
  rw [a1, g1]
  refine ⟨h1, rfl, ?_, xfr_v g3⟩
  have e2 : h1 28 2 = Int32.ofNat (st.length + 1) := by rw [g3.1 28 (by omega), H.2.2.1, e]; rfl
  have := pm_top (dr := P.2.2) H a4 rfl a2 g2 g3 (x := h1 28 2) e2
  rw [w_up_self] at this
  exact this
theorem tag_2 {q i : Nat} {v : VL} (hv : cv h q i (some v)) : (h (q + 1) i < 2 ↔ ∃ n, v = .inl n) := by
  obtain ⟨t, -⟩ := cv_tag hv
  rw [t]
  cases v with
  | inl n => exact ⟨fun _ => ⟨n, rfl⟩, fun _ => (by decide : Int32.ofNat 1 < 2)⟩
  | inr l =>
    have h8 := hv.1
    refine ⟨fun hh => ?_, fun hh => by obtain ⟨n, hn⟩ := hh; cases hn⟩
    have := (u_ltL (a := l.length + 2) (n := 2) (by omega) (by decide)).mp hh
    have h3 : l.length + 2 < 2 := this
    omega
theorem x_24 {d : Nat} (hd : d < 10) (H : pm h P) {r : Int32 × PM} (hx : xs p 7 (Int32.ofNat d) P = some r) : ∃ h', p_24 h (Int32.ofNat d) = some (r.1, h') ∧ pm h' r.2 ∧ xfr h h' := by
  have hx2 : (match P.2.1 with
    | .inr l :: st => if (Int32.ofNat d).toNatClampNeg < l.length then some (0, P.1, .inl (l.getD (Int32.ofNat d).toNatClampNeg 0) :: st, P.2.2) else some (3, P)
    | .inl _ :: _ => some (2, P)
    | [] => none) = some r := hx
  rw [u_cl (by omega)] at hx2
  cases es : P.2.1 with
  | nil => rw [es] at hx2; cases hx2
  | cons v st =>
    rw [es] at hx2
    obtain ⟨a1, a2, a3, a4⟩ := k_1 H es
    obtain ⟨b1, b2⟩ := c_63 (h := h) (q := 32) a2
    obtain ⟨c1, c2⟩ := c_65 a2 a3
    have ht := tag_2 a3
    unfold p_24
    rw [a1, b1, b2, c1, c2]
    simp only [w_gd]
    cases v with
    | inl n =>
      cases hx2
      rw [if_pos (ht.mpr ⟨n, rfl⟩)]
      exact ⟨h, rfl, H, xfr_refl⟩
    | inr l =>
      have h8 := a3.1
      rw [if_neg (fun e => by obtain ⟨n, hn⟩ := ht.mp e; cases hn)]
      have el : (Int32.ofNat d < Int32.ofNat (vLen (some (.inr l)))) ↔ d < l.length := u_lt (by omega) (by show l.length < _; omega)
      by_cases hdl : d < l.length
      · simp only [hdl, if_true] at hx2
        cases hx2
        rw [if_pos (el.mpr hdl)]
        obtain ⟨e1, e2⟩ := c_66 (h := h) (q := 32) (i := st.length) (k := d) a2 (by omega)
        rw [e2, e1, a3.2.2 d hdl]
        simp only [w_gd]
        obtain ⟨h1, g1, g2, g3⟩ := pm_rep (n := l.getD d 0) H es
        rw [a1] at g1
        rw [g1]
        exact ⟨h1, rfl, g2, g3⟩
      · simp only [hdl, if_false] at hx2
        cases hx2
        rw [if_neg (fun e => hdl (el.mp e))]
        exact ⟨h, rfl, H, xfr_refl⟩
theorem x_25 (H : pm h P) {d : Int32} {r : Int32 × PM} (hx : xs p 8 d P = some r) : ∃ h', p_25 h = some (r.1, h') ∧ pm h' r.2 ∧ xfr h h' := by
  have hx2 : (match P.2.1 with
    | .inr l :: st => some (0, P.1, .inl (Int32.ofNat l.length) :: st, P.2.2)
    | .inl _ :: _ => some (2, P)
    | [] => none) = some r := hx
  cases es : P.2.1 with
  | nil => rw [es] at hx2; cases hx2
  | cons v st =>
    rw [es] at hx2
    obtain ⟨a1, a2, a3, a4⟩ := k_1 H es
    obtain ⟨b1, b2⟩ := c_63 (h := h) (q := 32) a2
    obtain ⟨c1, c2⟩ := c_65 a2 a3
    have ht := tag_2 a3
    unfold p_25
    rw [a1, b1, b2, c1, c2]
    simp only [w_gd]
    cases v with
    | inl n =>
      cases hx2
      rw [if_pos (ht.mpr ⟨n, rfl⟩)]
      exact ⟨h, rfl, H, xfr_refl⟩
    | inr l =>
      cases hx2
      rw [if_neg (fun e => by obtain ⟨n, hn⟩ := ht.mp e; cases hn)]
      obtain ⟨h1, g1, g2, g3⟩ := pm_rep (n := Int32.ofNat l.length) H es
      rw [a1] at g1
      have g1' : p_68 h 32 (Int32.ofNat st.length) (Int32.ofNat (vLen (some (.inr l)))) = some h1 := g1
      rw [g1']
      exact ⟨h1, rfl, g2, g3⟩
/-- the top goes to the name i (or to the result) -/
theorem x_21 {i : Nat} {v : VL} {st : List VL} (hi : i < 27) (H : pm h P) (e : P.2.1 = v :: st) : ∃ h', p_21 h (Int32.ofNat i) = some (0, h') ∧ pm h' (eup P.1 i (some v), st, P.2.2) ∧ xfr h h' := by
  obtain ⟨a1, a2, a3, a4⟩ := k_1 H e
  unfold p_21
  simp only [w_let, w_up_at]
  rw [a1]
  generalize hg : w_up h 28 2 (Int32.ofNat st.length) = g
  have eg : ∀ z, z ≠ 28 → g z = h z := fun z hz => by subst hg; exact funext fun b => w_up_q hz
  have a3' : cv g 32 st.length (some v) := cv_fr a3 (eg _ (by decide)) (eg _ (by decide))
  obtain ⟨h1, b1, b2, b3⟩ := c_71 (h := g) (q := 29) (i := i) (q2 := 32) hi a2 a3' (by decide) (fun e => absurd e (by decide))
  rw [b1]
  refine ⟨h1, rfl, ⟨fun k hk => ?_, ?_, ?_, by show st.length ≤ 27; omega, ?_⟩, xfr_trans (by subst hg; exact xfr_2) (xfr_e b3)⟩
  · show cv h1 29 k (if k = i then some v else P.1 k)
    by_cases c : k = i
    · rw [if_pos c, c]; exact b2
    · rw [if_neg c]
      exact cv_vfr (cv_fr (H.1 k hk) (eg _ (by decide)) (eg _ (by decide))) b3 c
  · refine stk_fr a4 ?_ ?_
    · rw [b3.1 33 (by omega), eg _ (by decide)]
    · rw [b3.1 34 (by omega), eg _ (by decide)]
  · rw [b3.1 28 (by omega)]; subst hg; exact w_up_at
  · rw [b3.1 28 (by omega)]; subst hg; rw [w_up_b (by decide)]; exact H.2.2.2.2
end S71
