/-! ===== the pure machine ===== -/
/-- answers so far: how many, the random state, the answers -/
abbrev DR : Type := Nat × Int32 × List Int32
/-- only tried, the answers to be given again, the hour -/
abbrev DP : Type := Bool × List Int32 × Int32
def nxt (x : Int32) : Int32 := (75 * x + 74) - (75 * x + 74) / 65537 * 65537
def drx (p : DP) (k : Int32) (d : DR) : Int32 × Int32 :=
  if d.1 < p.2.1.length then (p.2.1.getD d.1 0, d.2.1) else if p.1 = true then (0, d.2.1) else if k = 0 then (nxt d.2.1, nxt d.2.1) else (p.2.2, d.2.1)
def drw (p : DP) (k : Int32) (d : DR) : Int32 × DR := ((drx p k d).1, (d.1 + 1, (drx p k d).2, d.2.2 ++ [(drx p k d).1]))
/-- the names' values and the result at 26; the stack, its top first; the answers -/
abbrev PM : Type := (Nat → Option VL) × List VL × DR
def eup (e : Nat → Option VL) (i : Nat) (v : Option VL) : Nat → Option VL := fun j => if j = i then v else e j
def nums : List VL → Option (List Int32)
  | [] => some []
  | .inl n :: l => (nums l).map (n :: ·)
  | .inr _ :: _ => none
def opr (k a b : Int32) : Int32 := if k = 4 then a + b else if k = 5 then a - b else a * b
/-- one step: an error (0 without) and the state; none where the machine would be misused -/
def xs (p : DP) (k : Int32) (d : Int32) (P : PM) : Option (Int32 × PM) :=
  if k = 0 then (if P.2.1.length < 27 then some (0, P.1, .inl d :: P.2.1, P.2.2) else none)
  else if k = 1 then (match P.1 d.toNatClampNeg with
    | none => some (1, P)
    | some v => if P.2.1.length < 27 then some (0, P.1, v :: P.2.1, P.2.2) else none)
  else if k = 2 ∨ k = 3 then (if P.2.1.length < 27 ∧ P.2.2.1 < 40 then some (0, P.1, .inl (drw p (k - 2) P.2.2).1 :: P.2.1, (drw p (k - 2) P.2.2).2) else none)
  else if k = 4 ∨ k = 5 ∨ k = 6 then (match P.2.1 with
    | .inl b :: .inl a :: st => some (0, P.1, .inl (opr k a b) :: st, P.2.2)
    | _ :: _ :: _ => some (2, P)
    | _ => none)
  else if k = 7 then (match P.2.1 with
    | .inr l :: st => if d.toNatClampNeg < l.length then some (0, P.1, .inl (l.getD d.toNatClampNeg 0) :: st, P.2.2) else some (3, P)
    | .inl _ :: _ => some (2, P)
    | [] => none)
  else if k = 8 then (match P.2.1 with
    | .inr l :: st => some (0, P.1, .inl (Int32.ofNat l.length) :: st, P.2.2)
    | .inl _ :: _ => some (2, P)
    | [] => none)
  else if k = 9 then (match P.2.1 with
    | .inl _ :: _ => some (0, P)
    | .inr _ :: _ => some (2, P)
    | [] => none)
  else if k = 10 then (if 0 < d.toNatClampNeg ∧ d.toNatClampNeg ≤ 8 ∧ d.toNatClampNeg ≤ P.2.1.length then (match nums (P.2.1.take d.toNatClampNeg) with
    | some l => some (0, P.1, .inr l.reverse :: P.2.1.drop d.toNatClampNeg, P.2.2)
    | none => none) else none)
  else if k = 11 then some (if P.1 d.toNatClampNeg = none then 1 else 0, P)
  else if k = 12 then (match P.2.1 with
    | v :: st => some (0, eup P.1 d.toNatClampNeg (some v), st, P.2.2)
    | [] => none)
  else if k = 13 then (match P.2.1, P.1 d.toNatClampNeg with
    | .inl b :: st, some (.inl a) => some (0, eup P.1 d.toNatClampNeg (some (.inl (a + b))), st, P.2.2)
    | _ :: _, _ => some (2, P)
    | [], _ => none)
  else if k = 14 then (match P.2.1 with
    | v :: st => some (0, eup P.1 26 (some v), st, P.2.2)
    | [] => none)
  else none
/-- the class's stack -/
def stk (h : Hp) : List VL → Prop
  | [] => True
  | v :: st => cv h 32 st.length (some v) ∧ stk h st
/-- the class's machine stands at P -/
def pm (h : Hp) (P : PM) : Prop := (∀ i, i < 27 → cv h 29 i (P.1 i)) ∧ stk h P.2.1 ∧ h 28 2 = Int32.ofNat P.2.1.length ∧ P.2.1.length ≤ 27 ∧ h 28 4 = 40
section S70
variable {h h' : Hp} {P : PM} {p : DP}
theorem stk_fr : ∀ {st : List VL}, stk h st → h' 33 = h 33 → h' 34 = h 34 → stk h' st := by
  intro st
  induction st with
  | nil => intro _ _ _; trivial
  | cons v st ih => intro H e1 e2; exact ⟨cv_fr H.1 e1 e2, ih H.2 e1 e2⟩
theorem stk_vfr : ∀ {st : List VL} {i : Nat}, stk h st → vfr 32 i h h' → st.length ≤ i → stk h' st := by
  intro st
  induction st with
  | nil => intro _ _ _ _; trivial
  | cons v st ih =>
    intro i H f hi
    have hi' : st.length + 1 ≤ i := hi
    exact ⟨cv_vfr H.1 f (by omega), ih H.2 f (by omega)⟩
/-- what the machine leaves -/
def xP (q : Nat) : Prop := q = 28 ∨ q = 30 ∨ q = 31 ∨ q = 33 ∨ q = 34
def xfr (h h' : Hp) : Prop := w_fr xP h h' ∧ ∀ b, b ≠ 2 → h' 28 b = h 28 b
theorem xfr_refl : xfr h h := ⟨w_fr_refl _ _, fun _ _ => rfl⟩
theorem xfr_trans {a b d : Hp} (x : xfr a b) (y : xfr b d) : xfr a d := ⟨w_fr_trans x.1 y.1, fun k hk => (y.2 k hk).trans (x.2 k hk)⟩
theorem xfr_v {i : Nat} (f : vfr 32 i h h') : xfr h h' := ⟨w_fr_mono f.1 (fun z hz => by unfold xP; omega), fun b _ => by rw [f.1 28 (by omega)]⟩
theorem xfr_e {i : Nat} (f : vfr 29 i h h') : xfr h h' := ⟨w_fr_mono f.1 (fun z hz => by unfold xP; omega), fun b _ => by rw [f.1 28 (by omega)]⟩
theorem xfr_2 {x : Int32} : xfr h (w_up h 28 2 x) := ⟨w_fr_up (w_fr_refl _ _) (Or.inl rfl), fun b hb => w_up_b hb⟩
/-- the top is written anew: a value at the height i becomes the top -/
theorem pm_top {i : Nat} {v : VL} {st : List VL} (H : pm h P) (hs : stk h st) (hl : st.length = i) (hi : i < 27) (hc : cv h' 32 i (some v)) (f : vfr 32 i h h') {x : Int32} (hx : x = Int32.ofNat (i + 1)) {dr : DR} : pm (w_up h' 28 2 x) (P.1, v :: st, dr) := by
  subst hx
  obtain ⟨a, -, -, -, e⟩ := H
  refine ⟨fun k hk => cv_fr (a k hk) ?_ ?_, ⟨?_, ?_⟩, ?_, by show st.length + 1 ≤ 27; omega, ?_⟩
  · funext b; rw [w_up_q (by decide), f.1 30 (by omega)]
  · funext b; rw [w_up_q (by decide), f.1 31 (by omega)]
  · rw [hl]; exact cv_fr hc (funext fun b => w_up_q (by decide)) (funext fun b => w_up_q (by decide))
  · exact stk_fr (stk_vfr hs f (by omega)) (funext fun b => w_up_q (by decide)) (funext fun b => w_up_q (by decide))
  · rw [w_up_at]; show _ = Int32.ofNat (st.length + 1); rw [hl]
  · rw [w_up_b (by decide), f.1 28 (by omega)]; exact e
theorem x_19 {n : Int32} (H : pm h P) (hl : P.2.1.length < 27) {dr : DR} : ∃ h', p_19 h n = some (0, h') ∧ pm h' (P.1, .inl n :: P.2.1, dr) ∧ xfr h h' := by
  obtain ⟨h1, a1, a2, a3⟩ := c_68 (h := h) (q := 32) (n := n) hl
  unfold p_19
  rw [H.2.2.1, a1]
  simp only [Option.bind_some, w_let]
  have e : h1 28 2 + 1 = Int32.ofNat (P.2.1.length + 1) := by rw [a3.1 28 (by omega), H.2.2.1, u_S]
  exact ⟨_, rfl, pm_top H H.2.1 rfl hl a2 a3 e, xfr_trans (xfr_v a3) xfr_2⟩
theorem x_20 {d : Nat} (hd : d < 26) (H : pm h P) {r : Int32 × PM} (hx : xs p 1 (Int32.ofNat d) P = some r) : ∃ h', p_20 h (Int32.ofNat d) = some (r.1, h') ∧ pm h' r.2 ∧ xfr h h' := by
  have hv := H.1 d (by omega)
  obtain ⟨t1, -⟩ := cv_tag hv
  obtain ⟨v1, g1⟩ := c_63 (h := h) (q := 29) (show d < 27 by omega)
  unfold p_20
  rw [g1, v1]
  simp only [w_gd]
  unfold xs at hx
  rw [if_neg (by decide), if_pos rfl, u_cl (by omega)] at hx
  cases hv2 : P.1 d with
  | none =>
    rw [hv2] at hx t1
    cases hx
    rw [t1, if_pos (by rfl)]
    exact ⟨h, rfl, H, xfr_refl⟩
  | some v =>
    rw [hv2] at hx t1 hv
    have ht : ¬ h (29 + 1) d = 0 := by
      rw [t1]
      cases v with
      | inl n => exact (by decide : ¬ Int32.ofNat 1 = 0)
      | inr l =>
        have h8 := hv.1
        intro e
        have e2 := (u_inj (b := 0) (show l.length + 2 < 2147483648 by omega) (by decide)).mp e
        omega
    rw [if_neg ht]
    by_cases hl : P.2.1.length < 27
    · simp only [hl, if_true] at hx
      cases hx
      obtain ⟨h1, a1, a2, a3⟩ := c_71 (h := h) (q := 32) (q2 := 29) (j := d) (v := some v) hl (by omega) hv (by decide) (fun e => absurd e (by decide))
      rw [H.2.2.1, a1]
      simp only [Option.bind_some, w_let]
      have e : h1 28 2 + 1 = Int32.ofNat (P.2.1.length + 1) := by rw [a3.1 28 (by omega), H.2.2.1, u_S]
      exact ⟨_, rfl, pm_top H H.2.1 rfl hl a2 a3 e, xfr_trans (xfr_v a3) xfr_2⟩
    · simp only [hl, if_false] at hx
      cases hx
end S70
