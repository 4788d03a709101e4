/-! ===== queries: the class's machine ===== -/
def itl : VL → List Int32
  | .inl n => [n]
  | .inr l => l
def cmq (k n x : Int32) : Bool := decide (¬ v_28 k x n = 0)
def mxf (a b : Int32) : Int32 := if a < b then b else a
def sumL (l : List Int32) : Int32 := l.foldl (· + ·) 0
def maxL : List Int32 → Int32
  | [] => 0
  | x :: l => l.foldl mxf x
/-- a step of the machine, also those of queries -/
def qs (p : DP) (k d : Int32) (P : PM) : Option (Int32 × PM) :=
  if k = 15 ∨ k = 16 ∨ k = 17 then (match P.2.1 with
    | v :: st => some (0, P.1, .inr ((itl v).filter (cmq k d)) :: st, P.2.2)
    | [] => none)
  else if k = 18 ∨ k = 19 then (match P.2.1 with
    | .inr l :: st => some (0, P.1, .inl (if k = 18 then sumL l else maxL l) :: st, P.2.2)
    | _ => none)
  else xs p k d P
def yr (p : DP) : List ST → PM → Option (Int32 × Int32 × PM)
  | [], P => some (0, 0, P)
  | a :: C, P => match qs p a.1 a.2.1 P with
    | none => none
    | some r => if r.1 = 0 then yr p C r.2 else some (r.1, a.2.2, r.2)
def okQ (k d : Int32) : Prop := okS k d ∨ (k = 15 ∨ k = 16 ∨ k = 17) ∨ (k = 18 ∨ k = 19)
section S9b
variable {h h' : Hp} {P : PM} {p : DP} {R : Nat}
theorem take_snoc {l : List Int32} {i : Nat} (hi : i < l.length) : l.take (i + 1) = l.take i ++ [l.getD i 0] := by
  rw [List.take_succ, List.getD_eq_getElem?_getD, List.getElem?_eq_getElem hi]; rfl
theorem c_70e {q i : Nat} {n : Int32} {l : List Int32} (hi : i < 27) (H : cv h q i (some (.inr l))) (hl : l.length < 8) : p_70 h q (Int32.ofNat i) n = some (w_up (w_up h (q + 2) (i * 8 + l.length) n) (q + 1) i (Int32.ofNat (l.length + 3))) := by
  obtain ⟨-, t, e⟩ := H
  unfold p_70 q_70_13
  have h1 : ¬ Int32.ofNat i < 0 := u_lt0 (by omega)
  have h2 : Int32.ofNat i < 27 := (u_ltL (by omega) (by decide)).mpr hi
  have h3 : ¬ Int32.ofNat l.length < 0 := u_lt0 (by omega)
  have h4 : Int32.ofNat l.length < 8 := (u_ltL (by omega) (by decide)).mpr hl
  have e2 : Int32.ofNat (l.length + 2) - 2 = Int32.ofNat l.length := by
    have := u_subL (a := l.length + 2) (n := 2) (by omega)
    exact this
  have e3 : Int32.ofNat i * 8 + Int32.ofNat l.length = Int32.ofNat (i * 8 + l.length) := by
    rw [show (8 : Int32) = Int32.ofNat 8 by rfl, u_mul, u_add]
  have e4 : Int32.ofNat (l.length + 2) + 1 = Int32.ofNat (l.length + 3) := u_S _
  rw [if_neg h1, if_pos h2, if_neg h1, if_pos h2]
  simp (disch := omega) only [u_ix, u_cl, w_gd, t, e2, if_neg h3, if_pos h4, e3, w_let, w_up_q, e4]
theorem itl_at {i : Nat} {v : VL} (H : cv h 32 i (some v)) : (itl v).length ≤ 8 ∧ ∀ j, j < (itl v).length → h 34 (i * 8 + j) = (itl v).getD j 0 := by
  cases v with
  | inl n =>
    refine ⟨(show 1 ≤ 8 by decide), fun j hj => ?_⟩
    have hj' : j < 1 := hj
    have : j = 0 := by omega
    subst this
    exact H.2
  | inr l => exact ⟨H.1, H.2.2⟩
theorem x_27 {k d : Int32} {v : VL} {st : List VL} (H : pm h P) (e : P.2.1 = v :: st) : ∃ h', p_27 h k d = some (0, h') ∧ pm h' (P.1, .inr ((itl v).filter (cmq k d)) :: st, P.2.2) ∧ xfr h h' := by
  obtain ⟨a1, a2, a3, a4⟩ := k_1 H e
  obtain ⟨b1, b2⟩ := c_64 (q := 32) a2 a3
  obtain ⟨c1, c2⟩ := c_65 (q := 32) a2 a3
  obtain ⟨i1, i2⟩ := itl_at a3
  generalize hi : st.length = i at *
  have hcount : (if ofB (vNum (some v)) = 0 then Int32.ofNat (vLen (some v)) else 1 : Int32) = Int32.ofNat (itl v).length := by
    cases v with
    | inl n => rw [if_neg (show ¬ ofB (vNum (some (Sum.inl n : VL))) = 0 from (by decide : ¬ ofB true = 0))]; rfl
    | inr l => rw [if_pos (by rfl)]; rfl
  obtain ⟨h1, d1, d2, d3⟩ := c_69 (h := h) (q := 32) a2
  have e34 : h1 34 = h 34 := by
    have : p_69 h 32 (Int32.ofNat i) = some (w_up h 33 i 2) := by
      unfold p_69
      have h1 : ¬ Int32.ofNat i < 0 := u_lt0 (by omega)
      have h2 : Int32.ofNat i < 27 := (u_ltL (by omega) (by decide)).mpr a2
      rw [if_neg h1, if_pos h2]
      simp (disch := omega) only [u_ix, u_cl, w_gd, w_let]
    rw [this] at d1
    cases d1
    exact funext fun b => w_up_q (by decide)
  generalize hL : itl v = L at *
  have lp : ok (w_lp (fun (s : Int32 × Hp) => l_27_23 k d (Int32.ofNat i) (Int32.ofNat L.length) s.1 s.2) w_N (0, h1)) (fun r => r.1 = 0 ∧ cv r.2 32 i (some (.inr (L.filter (cmq k d)))) ∧ vfr 32 i h r.2) := by
    refine ok_for (fun j s => s.1 = Int32.ofNat j ∧ cv s.2 32 i (some (.inr ((L.take j).filter (cmq k d)))) ∧ vfr 32 i h s.2 ∧ ∀ b, j ≤ b → b < L.length → s.2 34 (i * 8 + b) = L.getD b 0) L.length ⟨rfl, by rw [List.take_zero]; exact d2, d3, fun b _ hb => by show h1 34 _ = _; rw [e34]; exact i2 b hb⟩ (by unfold w_N; omega) ?_ ?_
    · rintro j ⟨j', g⟩ hj ⟨ej, g1, g2, g3⟩
      simp only at ej g1 g2 g3
      subst ej
      have hlt : Int32.ofNat j < Int32.ofNat L.length := (u_lt (by omega) (by omega)).mpr hj
      obtain ⟨f1, f2⟩ := c_66 (h := g) (q := 32) (i := i) (k := j) a2 (by omega)
      have f1' : v_66 g 32 (Int32.ofNat i) (Int32.ofNat j) = L.getD j 0 := f1.trans (g3 j (Nat.le_refl _) hj)
      unfold l_27_23
      rw [if_pos hlt, f2, f1']
      simp only [w_gd]
      have et : (L.take (j + 1)).filter (cmq k d) = (L.take j).filter (cmq k d) ++ (if cmq k d (L.getD j 0) = true then [L.getD j 0] else []) := by
        rw [take_snoc hj, List.filter_append]
        congr 1
        by_cases hc : cmq k d (L.getD j 0) = true
        · rw [if_pos hc, List.filter_cons_of_pos hc]; rfl
        · rw [if_neg hc, List.filter_cons_of_neg hc]; rfl
      have hlen : ((L.take j).filter (cmq k d)).length ≤ j := by
        have := List.length_filter_le (cmq k d) (L.take j)
        rw [List.length_take] at this; omega
      by_cases hv : v_28 k (L.getD j 0) d = 0
      · rw [if_pos hv, u_S]
        refine ok_some ⟨rfl, ?_, g2, fun b h1 h2 => g3 b (by omega) h2⟩
        rw [et, if_neg (by unfold cmq; exact fun hh => (of_decide_eq_true hh) hv), List.append_nil]
        exact g1
      · rw [if_neg hv, c_70e a2 g1 (by omega)]
        simp only [Option.bind_some, u_S]
        refine ok_some ⟨rfl, ?_, ?_, fun b h1 h2 => ?_⟩
        · rw [et, if_pos (by unfold cmq; exact decide_eq_true hv)]
          obtain ⟨g', k1, k2, -⟩ := c_70 (h := g) (q := 32) (n := L.getD j 0) a2 g1 (by omega)
          rw [c_70e a2 g1 (by omega)] at k1
          cases k1
          exact k2
        · obtain ⟨g', k1, -, k2⟩ := c_70 (h := g) (q := 32) (n := L.getD j 0) a2 g1 (by omega)
          rw [c_70e a2 g1 (by omega)] at k1
          cases k1
          exact vfr_trans g2 k2
        · dsimp only
          rw [w_up_q (by decide), w_up_b (by omega)]
          exact g3 b (by omega) h2
    · rintro ⟨j', g⟩ ⟨ej, g1, g2, -⟩
      simp only at ej g1 g2
      subst ej
      have hlt : ¬ Int32.ofNat L.length < Int32.ofNat L.length := fun e => by have := (u_lt (by omega) (by omega)).mp e; omega
      unfold l_27_23
      rw [if_neg hlt]
      refine ok_some ⟨rfl, ?_, g2⟩
      rw [List.take_of_length_le (Nat.le_refl _)] at g1
      exact g1
  obtain ⟨⟨z, g⟩, l1, l2, l3, l4⟩ := lp
  simp only at l2 l3 l4
  subst l2
  refine ⟨g, ?_, ?_, xfr_v l4⟩
  · unfold p_27
    rw [a1, b2, b1, c1, c2, hcount, ite_self]
    simp only [w_gd]
    unfold q_27_16
    rw [d1]
    exact l1
  · have e2 : g 28 2 = Int32.ofNat (i + 1) := by rw [l4.1 28 (by omega), H.2.2.1, e, ← hi]; rfl
    have := pm_top (dr := P.2.2) H a4 hi a2 l3 l4 (x := g 28 2) e2
    rw [w_up_self] at this
    exact this
theorem x_29 {k : Int32} {l : List Int32} {st : List VL} (hk : k = 18 ∨ k = 19) (H : pm h P) (e : P.2.1 = .inr l :: st) : ∃ h', p_29 h k = some (0, h') ∧ pm h' (P.1, .inl (if k = 18 then sumL l else maxL l) :: st, P.2.2) ∧ xfr h h' := by
  obtain ⟨a1, a2, a3, a4⟩ := k_1 H e
  obtain ⟨c1, c2⟩ := c_65 (q := 32) a2 a3
  have hl8 := a3.1
  have hit := a3.2.2
  have c1' : v_65 h 32 (Int32.ofNat st.length) = Int32.ofNat l.length := c1
  obtain ⟨z1, z2⟩ := c_66 (h := h) (q := 32) (i := st.length) (k := 0) a2 (by decide)
  have z1' : v_66 h 32 (Int32.ofNat st.length) 0 = h 34 (st.length * 8 + 0) := z1
  have z2' : g_66 32 (Int32.ofNat st.length) 0 = true := z2
  generalize hx0 : h 34 (st.length * 8 + 0) = x0 at z1'
  have lp : w_lp (fun (s : Int32 × Int32 × Int32) => l_29_15 h (Int32.ofNat st.length) s.1 s.2.1 s.2.2) w_N (0, x0, 0) = some ((l.take l.length).foldl (· + ·) 0, (l.take l.length).foldl mxf x0) := by
    refine u_for (N := w_N) (fun j => ((l.take j).foldl (· + ·) 0, (l.take j).foldl mxf x0, Int32.ofNat j)) l.length (by unfold w_N; omega) ?_ ?_
    · intro j hj
      have hlt : Int32.ofNat j < Int32.ofNat l.length := (u_lt (by omega) (by omega)).mpr hj
      obtain ⟨f1, f2⟩ := c_66 (h := h) (q := 32) (i := st.length) (k := j) a2 (by omega)
      have f1' : v_66 h 32 (Int32.ofNat st.length) (Int32.ofNat j) = l.getD j 0 := f1.trans (hit j hj)
      unfold l_29_15
      simp only
      rw [c2, c1']
      simp only [w_gd]
      rw [if_pos hlt, f2, f1', take_snoc hj, List.foldl_append, List.foldl_append, u_S]
      rfl
    · have hlt : ¬ Int32.ofNat l.length < Int32.ofNat l.length := fun e => by have := (u_lt (by omega) (by omega)).mp e; omega
      unfold l_29_15
      simp only
      rw [c2, c1']
      simp only [w_gd]
      rw [if_neg hlt]
  rw [List.take_of_length_le (Nat.le_refl _)] at lp
  obtain ⟨h1, p1, p2, p3⟩ := pm_rep (n := if k = 18 then sumL l else maxL l) H e
  rw [a1] at p1
  refine ⟨h1, ?_, p2, p3⟩
  unfold p_29
  rw [a1, z2', z1', c2, c1']
  simp only [w_gd]
  rw [lp]
  simp only [Option.bind_some]
  cases l with
  | nil =>
    rw [if_pos (by rfl)]
    unfold q_29_46 q_29_55
    have : (if k = 18 then ([] : List Int32).foldl (· + ·) 0 else 0 : Int32) = (if k = 18 then sumL [] else maxL []) := rfl
    simp only [this]
    rw [p1]; rfl
  | cons y l =>
    have hy : x0 = y := by rw [← hx0]; exact hit 0 (by simp)
    have hne : ¬ Int32.ofNat (y :: l).length = 0 := fun hh => by
      have := (u_inj (a := (y :: l).length) (b := 0) (by omega) (by decide)).mp hh
      simp at this
    rw [if_neg hne]
    unfold q_29_46 q_29_55
    have e3 : (y :: l).foldl mxf x0 = maxL (y :: l) := by
      rw [hy]
      show l.foldl mxf (mxf y y) = l.foldl mxf y
      have : mxf y y = y := by unfold mxf; split <;> rfl
      rw [this]
    rw [e3]
    show (p_68 h 32 (Int32.ofNat st.length) (if k = 18 then sumL (y :: l) else maxL (y :: l))).bind _ = _
    rw [p1]; rfl
theorem y_18 {k d : Int32} (hk : okQ k d) (H : pm h P) (D : dc h R p P.2.2) {r : Int32 × PM} (hx : qs p k d P = some r) : ∃ h', p_18 h k d = some (r.1, h') ∧ pm h' r.2 ∧ dc h' R p r.2.2.2 ∧ rfx R h h' := by
  have hR := D.1
  rcases hk with hk | hk | hk
  · have e : qs p k d P = xs p k d P := by
      have n : ¬ (k = 15 ∨ k = 16 ∨ k = 17) ∧ ¬ (k = 18 ∨ k = 19) := by
        rcases hk with rfl | ⟨h1, -⟩ | h1 | h1 | ⟨rfl, -⟩ | rfl | rfl | ⟨rfl, -⟩ | rfl
        · decide
        · rcases h1 with rfl | rfl | rfl | rfl <;> decide
        · rcases h1 with rfl | rfl <;> decide
        · rcases h1 with rfl | rfl | rfl <;> decide
        all_goals decide
      unfold qs
      rw [if_neg n.1, if_neg n.2]
    rw [e] at hx
    exact x_18 hk H D hx
  · unfold qs at hx
    rw [if_pos hk] at hx
    cases es : P.2.1 with
    | nil => rw [es] at hx; cases hx
    | cons v st =>
      rw [es] at hx
      have hr : r = (0, P.1, .inr ((itl v).filter (cmq k d)) :: st, P.2.2) := by cases hx; rfl
      subst hr
      obtain ⟨h1, a1, a2, a3⟩ := x_27 (k := k) (d := d) H es
      refine ⟨h1, ?_, a2, dc_x D a3, rfx_x hR a3⟩
      rcases hk with rfl | rfl | rfl
      · show (p_27 h 15 d).bind _ = _
        rw [a1]; rfl
      · show (p_27 h 16 d).bind _ = _
        rw [a1]; rfl
      · show (p_27 h 17 d).bind _ = _
        rw [a1]; rfl
  · unfold qs at hx
    rw [if_neg (by rcases hk with rfl | rfl <;> decide), if_pos hk] at hx
    cases es : P.2.1 with
    | nil => rw [es] at hx; cases hx
    | cons v st =>
      rw [es] at hx
      cases v with
      | inl n => cases hx
      | inr l =>
        have hr : r = (0, P.1, .inl (if k = 18 then sumL l else maxL l) :: st, P.2.2) := by cases hx; rfl
        subst hr
        obtain ⟨h1, a1, a2, a3⟩ := x_29 hk H es
        refine ⟨h1, ?_, a2, dc_x D a3, rfx_x hR a3⟩
        rcases hk with rfl | rfl
        · show (p_29 h 18).bind _ = _
          rw [a1]; rfl
        · show (p_29 h 19).bind _ = _
          rw [a1]; rfl
end S9b
