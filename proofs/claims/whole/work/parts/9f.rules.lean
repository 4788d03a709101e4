/-! ===== rules: the class's machine ===== -/
def hld : Option VL → Bool
  | none => false
  | some (.inl n) => decide (¬ n = 0)
  | some (.inr l) => decide (¬ l = [])
/-- a name of the set B that is used has no value -/
def unt (e : Nat → Option VL) (us B : Int32) : Bool := anyb (fun j => bt (B &&& us) j && (e j).isNone) 26
def clr1 (a : ST) (x : Int32) : Int32 := if a.2.1 &&& (x ^^^ (-1)) = 0 then x ||| (1 <<< (a.1 &&& 31)) else x
def clr (C : List ST) (x : Int32) : Int32 := C.foldl (fun x a => clr1 a x) x
def clrN (C : List ST) : Nat → Int32 → Int32
  | 0, x => x
  | n + 1, x => clr C (clrN C n x)
def bas (e : Nat → Option VL) (us : Int32) : Int32 := sbo (fun j => bt us j && hld (e j)) 0 26
/-- the names after rules, H what holds -/
def eru (e : Nat → Option VL) (df H : Int32) : Nat → Option VL := fun j => if j = 26 then some (.inl (Int32.ofNat (cnt (bt (H &&& df)) 32))) else if bt df j = true then some (.inl (if bt H j = true then 1 else 0)) else e j
def rul (C : List ST) (df us : Int32) (e : Nat → Option VL) (d : DR) : Int32 × Int32 × PM := match C.find? (fun a => unt e us a.2.1) with
  | some a => (1, a.2.2, e, [], d)
  | none => (0, 0, eru e df (clrN C C.length (bas e us)), [], d)
section S9f
variable {h h' g : Hp} {p : DP} {R : Nat} {e : Nat → Option VL}
theorem tag_0 {i : Nat} {v : Option VL} (hv : cv g 29 i v) : (g (29 + 1) i = 0) ↔ v = none := by
  obtain ⟨t, tl⟩ := cv_tag hv
  rw [t]
  cases v with
  | none => exact ⟨fun _ => rfl, fun _ => rfl⟩
  | some v =>
    refine ⟨fun hh => ?_, fun hh => by cases hh⟩
    have e2 := (u_inj (a := vTag (some v)) (b := 0) (by omega) (by decide)).mp hh
    cases v with
    | inl n => exact absurd e2 (by decide : ¬ (1 : Nat) = 0)
    | inr l =>
      have e3 : l.length + 2 = 0 := e2
      omega
theorem c_31 {x : Int32} (he : ∀ i, i < 27 → cv g 29 i (e i)) : p_31 g x = some (ofB (anyb (fun j => bt x j && (e j).isNone) 26)) := by
  have lp : ok (p_31 g x) (fun r => r = ofB (anyb (fun j => bt x j && (e j).isNone) 26)) := by
    unfold p_31
    refine ok_for (fun i s => s = Int32.ofNat i ∧ anyb (fun j => bt x j && (e j).isNone) i = false) 26 ⟨rfl, rfl⟩ (by decide) ?_ ?_
    · rintro i s hi ⟨rfl, hb⟩
      have hlt : Int32.ofNat i < 26 := (u_ltL (by omega) (by decide)).mpr hi
      obtain ⟨t1, t2⟩ := c_63 (h := g) (q := 29) (show i < 27 by omega)
      have t3 := tag_0 (he i (by omega))
      unfold l_31_2
      rw [if_pos hlt, t1, t2]
      simp only [w_gd]
      by_cases hx : bt x i = true
      · rw [if_neg (fun h => (v126_ne (by omega)).mp h hx)]
        by_cases h0 : e i = none
        · rw [if_pos (t3.mpr h0)]
          refine ok_some ?_
          show (1 : Int32) = _
          have : anyb (fun j => bt x j && (e j).isNone) 26 = true := (anyb_iff 26).mpr ⟨i, hi, by simp only [hx, h0]; rfl⟩
          rw [this]; rfl
        · rw [if_neg (fun h => h0 (t3.mp h)), u_S]
          refine ok_some ⟨rfl, ?_⟩
          have : (e i).isNone = false := by cases hh : e i with
            | none => exact absurd hh h0
            | some v => rfl
          simp only [anyb, hb, this, Bool.and_false, Bool.or_false]
      · have hx' : bt x i = false := by simpa using hx
        rw [if_pos ((v126_ne (by omega)).mpr hx), u_S]
        refine ok_some ⟨rfl, ?_⟩
        simp only [anyb, hb, hx', Bool.false_and, Bool.or_false]
    · rintro s ⟨rfl, hb⟩
      unfold l_31_2
      rw [if_neg (by decide)]
      refine ok_some ?_
      show (0 : Int32) = _
      rw [hb]; rfl
  obtain ⟨r, h1, h2⟩ := lp
  rw [h1, h2]
theorem c_32 {us : Int32} (he : ∀ i, i < 27 → cv g 29 i (e i)) : p_32 g us = some (bas e us) := by
  unfold p_32 bas
  refine u_for (fun i => (sbo (fun j => bt us j && hld (e j)) 0 i, Int32.ofNat i)) 26 (by decide) ?_ ?_
  · intro i hi
    have hlt : Int32.ofNat i < 26 := (u_ltL (by omega) (by decide)).mpr hi
    obtain ⟨a1, a2⟩ := c_64 (h := g) (q := 29) (show i < 27 by omega) (he i (by omega))
    obtain ⟨b1, b2⟩ := c_65 (h := g) (q := 29) (show i < 27 by omega) (he i (by omega))
    obtain ⟨c1, c2⟩ := c_66 (h := g) (q := 29) (i := i) (k := 0) (by omega) (by decide)
    have c2' : g_66 29 (Int32.ofNat i) 0 = true := c2
    have c1' : v_66 g 29 (Int32.ofNat i) 0 = g 31 (i * 8 + 0) := c1
    have hs : (if ofB (vNum (e i)) = 0 then (if Int32.ofNat (vLen (e i)) ≤ 0 then 0 else 1 : Int32) else (if g 31 (i * 8 + 0) = 0 then 0 else 1 : Int32) : Int32) = ofB (hld (e i)) := by
      have hv := he i (by omega)
      cases hh : e i with
      | none => rfl
      | some v =>
        rw [hh] at hv
        cases v with
        | inl n =>
          have hn : g 31 (i * 8 + 0) = n := hv.2
          rw [if_neg (show ¬ ofB (vNum (some (Sum.inl n : VL))) = 0 from (by decide : ¬ ofB true = 0)), hn]
          show _ = ofB (decide (¬ n = 0))
          by_cases h0 : n = 0
          · rw [if_pos h0, decide_eq_false (fun h => h h0)]; rfl
          · rw [if_neg h0, decide_eq_true h0]; rfl
        | inr l =>
          have h8 := hv.1
          rw [if_pos (by rfl)]
          show (if Int32.ofNat l.length ≤ 0 then (0 : Int32) else 1) = ofB (decide (¬ l = []))
          by_cases h0 : l = []
          · subst h0; rfl
          · have hne : ¬ Int32.ofNat l.length ≤ 0 := fun hh => by
              have := (u_leL (a := l.length) (n := 0) (by omega) (by decide)).mp hh
              exact h0 (List.length_eq_zero_iff.mp (by omega))
            rw [if_neg hne, decide_eq_true h0]; rfl
    show l_32_4 g us _ _ = _
    unfold l_32_4 q_32_30
    rw [if_pos hlt, a2, b2, c2', a1, b1, c1', ite_self]
    simp only [w_gd]
    rw [hs, u_S]
    have e1 : sbo (fun j => bt us j && hld (e j)) 0 (i + 1) = (sbo (fun j => bt us j && hld (e j)) 0 i ||| (if (bt us i && hld (e i)) = true then 1 <<< (Int32.ofNat (0 + i) &&& 31) else 0)) := rfl
    rw [e1, Nat.zero_add]
    by_cases hx : bt us i = true
    · rw [if_neg (fun h => (v126_ne (by omega)).mp h hx), hx, Bool.true_and]
      cases hld (e i) with
      | true => rw [if_neg (by decide), if_pos rfl]
      | false => rw [if_pos (by rfl), if_neg (by decide)]
    · have hx' : bt us i = false := by simpa using hx
      rw [if_pos ((v126_ne (by omega)).mpr hx), hx', Bool.false_and, if_neg (by decide)]
  · show l_32_4 g us _ _ = _
    unfold l_32_4
    rw [if_neg (show ¬ Int32.ofNat 26 < 26 by decide)]
theorem c_33 {q1 : Nat} {s : RS} {lang x : Int32} (H : cd g q1 s lang) : p_33 g q1 x = some (clrN s.2.1 s.2.1.length x) := by
  have h41 := H.2.1
  have inner : ∀ y, w_lp (fun (t : Int32 × Int32) => l_33_10 g q1 t.1 t.2) w_N (y, 0) = some (clr s.2.1 y) := by
    intro y
    have := u_for (b := fun (t : Int32 × Int32) => l_33_10 g q1 t.1 t.2) (N := w_N) (fun i => (clr (s.2.1.take i) y, Int32.ofNat i)) s.2.1.length (e := clr s.2.1 y) (by unfold w_N; omega) ?_ ?_
    · exact this
    · intro i hi
      have hlt : Int32.ofNat i < Int32.ofNat s.2.1.length := (u_lt (by omega) (by omega)).mpr hi
      obtain ⟨t1, t2, t3⟩ := H.2.2.1 i hi
      have et : s.2.1.take (i + 1) = s.2.1.take i ++ [s.2.1.getD i (0, 0, 0)] := by
        rw [List.take_succ, List.getD_eq_getElem?_getD, List.getElem?_eq_getElem hi]; rfl
      show l_33_10 g q1 _ _ = _
      unfold l_33_10
      rw [H.1, if_pos hlt, u_ix (by omega) (by decide), u_cl (by omega), t1, t2, u_S, et]
      simp only [w_gd]
      have ec : clr (s.2.1.take i ++ [s.2.1.getD i (0, 0, 0)]) y = clr1 (s.2.1.getD i (0, 0, 0)) (clr (s.2.1.take i) y) := by
        unfold clr; rw [List.foldl_append]; rfl
      rw [ec]
      unfold clr1
      by_cases hc : (s.2.1.getD i (0, 0, 0)).2.1 &&& (clr (s.2.1.take i) y ^^^ (-1)) = 0
      · rw [if_pos hc, if_pos hc]
      · rw [if_neg hc, if_neg hc]
    · have hlt : ¬ Int32.ofNat s.2.1.length < Int32.ofNat s.2.1.length := fun hh => by have := (u_lt (by omega) (by omega)).mp hh; omega
      show l_33_10 g q1 _ _ = _
      unfold l_33_10
      rw [H.1, if_neg hlt, List.take_of_length_le (Nat.le_refl _)]
  unfold p_33
  refine u_for (N := w_N) (fun i => (clrN s.2.1 i x, Int32.ofNat i)) s.2.1.length (by unfold w_N; omega) ?_ ?_
  · intro i hi
    have hlt : Int32.ofNat i < Int32.ofNat s.2.1.length := (u_lt (by omega) (by omega)).mpr hi
    show l_33_4 g q1 _ _ = _
    unfold l_33_4
    rw [H.1, if_pos hlt, inner, u_S]; rfl
  · have hlt : ¬ Int32.ofNat s.2.1.length < Int32.ofNat s.2.1.length := fun hh => by have := (u_lt (by omega) (by omega)).mp hh; omega
    show l_33_4 g q1 _ _ = _
    unfold l_33_4
    rw [H.1, if_neg hlt]
theorem find_at {f : ST → Bool} : ∀ (C : List ST) (i : Nat), i < C.length → f (C.getD i (0, 0, 0)) = true → (∀ j, j < i → f (C.getD j (0, 0, 0)) = false) → C.find? f = some (C.getD i (0, 0, 0)) := by
  intro C
  induction C with
  | nil => intro i h; simp at h
  | cons a C ih =>
    intro i hi h1 h2
    cases i with
    | zero =>
      have h1' : f a = true := h1
      rw [List.find?_cons, h1']; rfl
    | succ i =>
      have h0 : f a = false := h2 0 (by omega)
      rw [List.find?_cons, h0]
      exact ih i (by simpa using hi) h1 (fun j hj => h2 (j + 1) (by omega))
theorem find_no {f : ST → Bool} {C : List ST} (h : ∀ j, j < C.length → f (C.getD j (0, 0, 0)) = false) : C.find? f = none := by
  rw [List.find?_eq_none]
  intro a ha
  obtain ⟨i, hi, e⟩ := List.getElem_of_mem ha
  have := h i hi
  rw [List.getD_eq_getElem?_getD, List.getElem?_eq_getElem hi] at this
  simp only [Option.getD_some] at this
  rw [e] at this
  rw [this]; decide
/-- rules are run -/
theorem c_30 {q1 : Nat} {s : RS} {lang : Int32} {d : DR} (hq : 40 < q1) (H : cd g q1 s lang) (he : ∀ i, i < 27 → cv g 29 i (e i)) (h3 : g 28 3 = 0) : ∃ h', p_30 g q1 = some ((rul s.2.1 s.2.2.2.2.1 s.2.2.2.2.2.2 e d).1, h') ∧ (∀ i, i < 27 → cv h' 29 i ((rul s.2.1 s.2.2.2.2.1 s.2.2.2.2.2.2 e d).2.2.1 i)) ∧ h' 28 3 = (rul s.2.1 s.2.2.2.2.1 s.2.2.2.2.2.2 e d).2.1 ∧ w_fr (fun q => q = 28 ∨ q = 30 ∨ q = 31) g h' ∧ ∀ b, b ≠ 3 → h' 28 b = g 28 b := by
  have h41 := H.2.1
  have e5 : g q1 5 = s.2.2.2.2.1 := H.2.2.2.2.1
  have e7 : g q1 7 = s.2.2.2.2.2.2 := H.2.2.2.2.2.2
  generalize hus : s.2.2.2.2.2.2 = us at *
  generalize hdf : s.2.2.2.2.1 = df at *
  have lp : ok (w_lp (fun (t : Int32) => l_30_2 g q1 t) w_N 0) (fun r => (∃ i, i < s.2.1.length ∧ unt e us (s.2.1.getD i (0, 0, 0)).2.1 = true ∧ (∀ j, j < i → unt e us (s.2.1.getD j (0, 0, 0)).2.1 = false) ∧ r = .inl (Int32.ofNat i)) ∨ ((∀ j, j < s.2.1.length → unt e us (s.2.1.getD j (0, 0, 0)).2.1 = false) ∧ r = .inr ())) := by
    refine ok_for (fun i t => t = Int32.ofNat i ∧ ∀ j, j < i → unt e us (s.2.1.getD j (0, 0, 0)).2.1 = false) s.2.1.length ⟨rfl, fun j hj => absurd hj (Nat.not_lt_zero j)⟩ (by unfold w_N; omega) ?_ ?_
    · rintro i t hi ⟨rfl, hb⟩
      have hlt : Int32.ofNat i < Int32.ofNat s.2.1.length := (u_lt (by omega) (by omega)).mpr hi
      obtain ⟨t1, t2, t3⟩ := H.2.2.1 i hi
      unfold l_30_2
      rw [H.1, if_pos hlt, u_ix (by omega) (by decide), u_cl (by omega), t2, e7]
      simp only [w_gd]
      rw [c_31 he]
      simp only [Option.bind_some]
      have eu : anyb (fun j => bt ((s.2.1.getD i (0, 0, 0)).2.1 &&& us) j && (e j).isNone) 26 = unt e us (s.2.1.getD i (0, 0, 0)).2.1 := rfl
      rw [eu]
      cases hu : unt e us (s.2.1.getD i (0, 0, 0)).2.1 with
      | true =>
        rw [if_neg (by decide)]
        exact ok_some (Or.inl ⟨i, hi, hu, hb, rfl⟩)
      | false =>
        rw [if_pos (by rfl), u_S]
        refine ok_some ⟨rfl, fun j hj => ?_⟩
        by_cases c : j = i
        · subst c; exact hu
        · exact hb j (by omega)
    · rintro t ⟨rfl, hb⟩
      have hlt : ¬ Int32.ofNat s.2.1.length < Int32.ofNat s.2.1.length := fun hh => by have := (u_lt (by omega) (by omega)).mp hh; omega
      unfold l_30_2
      rw [H.1, if_neg hlt]
      exact ok_some (Or.inr ⟨hb, rfl⟩)
  obtain ⟨r, l1, l2⟩ := lp
  unfold p_30
  rw [l1]
  rcases l2 with ⟨i, hi, hu, hb, rfl⟩ | ⟨hb, rfl⟩
  · have hr : rul s.2.1 df us e d = (1, (s.2.1.getD i (0, 0, 0)).2.2, e, [], d) := by
      unfold rul
      rw [find_at (f := fun a => unt e us a.2.1) s.2.1 i hi hu hb]
    rw [hr]
    obtain ⟨t1, t2, t3⟩ := H.2.2.1 i hi
    simp (disch := omega) only [Option.bind_some, Sum.elim_inl, u_ix, u_cl, w_gd, w_let, t3]
    have hne : ∀ q, q ≠ 28 → w_up g 28 3 (s.2.1.getD i (0, 0, 0)).2.2 q = g q := fun q hq => funext fun b => w_up_q hq
    exact ⟨_, rfl, fun j hj => cv_fr (he j hj) (hne _ (by decide)) (hne _ (by decide)), w_up_at, fun q hq => hne q (fun h => hq (Or.inl h)), fun b hb => w_up_b hb⟩
  · have hr : rul s.2.1 df us e d = (0, 0, eru e df (clrN s.2.1 s.2.1.length (bas e us)), [], d) := by
      unfold rul
      rw [find_no (f := fun a => unt e us a.2.1) hb]
    rw [hr]
    simp only [Option.bind_some, Sum.elim_inr]
    rw [e7, c_32 he]
    simp only [Option.bind_some]
    rw [c_33 H]
    simp only [Option.bind_some]
    generalize clrN s.2.1 s.2.1.length (bas e us) = X
    have lp2 : ok (w_lp (fun (t : Int32 × Hp) => l_30_35 q1 X t.1 t.2) w_N (0, g)) (fun r => (∀ j, j < 27 → cv r 29 j (if j < 26 ∧ bt df j = true then some (.inl (if bt X j = true then 1 else 0)) else e j)) ∧ w_fr (fun q => q = 30 ∨ q = 31) g r) := by
      refine ok_for (fun i t => t.1 = Int32.ofNat i ∧ (∀ j, j < 27 → cv t.2 29 j (if j < i ∧ bt df j = true then some (.inl (if bt X j = true then 1 else 0)) else e j)) ∧ w_fr (fun q => q = 30 ∨ q = 31) g t.2) 26 ⟨rfl, fun j hj => by rw [if_neg (by omega)]; exact he j hj, w_fr_refl _ _⟩ (by decide) ?_ ?_
      · rintro i ⟨t, g1⟩ hi ⟨e1, hc, hf⟩
        simp only at e1 hc hf
        subst e1
        have hlt : Int32.ofNat i < 26 := (u_ltL (by omega) (by decide)).mpr hi
        have e5' : g1 q1 5 = df := by rw [hf q1 (by omega)]; exact e5
        show ok (l_30_35 q1 X (Int32.ofNat i) g1) _
        unfold l_30_35
        rw [if_pos hlt, e5', u_S]
        by_cases hx : bt df i = true
        · rw [if_neg (fun h => (v126_ne (by omega)).mp h hx)]
          unfold q_30_53
          obtain ⟨g2, b1, b2, b3⟩ := c_68 (h := g1) (q := 29) (i := i) (n := if bt X i = true then 1 else 0) (by omega)
          have e126 : (if v_126 X (Int32.ofNat i) = 0 then 0 else 1 : Int32) = if bt X i = true then 1 else 0 := by
            by_cases hy : bt X i = true
            · rw [if_neg (fun h => (v126_ne (by omega)).mp h hy), if_pos hy]
            · rw [if_pos ((v126_ne (by omega)).mpr hy), if_neg hy]
          rw [e126, b1]
          simp only [Option.bind_some, u_S]
          refine ok_some ⟨rfl, fun j hj => ?_, w_fr_trans hf (w_fr_mono b3.1 (fun q hq => hq))⟩
          by_cases c : j = i
          · subst c
            rw [if_pos ⟨Nat.lt_succ_self _, hx⟩]; exact b2
          · have := cv_vfr (hc j hj) b3 c
            have e6 : (j < i ∧ bt df j = true) ↔ (j < i + 1 ∧ bt df j = true) := ⟨fun h => ⟨by omega, h.2⟩, fun h => ⟨by omega, h.2⟩⟩
            simp only [e6] at this
            exact this
        · rw [if_pos ((v126_ne (by omega)).mpr hx)]
          refine ok_some ⟨rfl, fun j hj => ?_, hf⟩
          have := hc j hj
          have e6 : (j < i ∧ bt df j = true) ↔ (j < i + 1 ∧ bt df j = true) := by
            constructor
            · exact fun h => ⟨by omega, h.2⟩
            · intro h
              refine ⟨?_, h.2⟩
              by_cases c : j = i
              · subst c; exact absurd h.2 hx
              · omega
          simp only [e6] at this
          exact this
      · rintro ⟨t, g1⟩ ⟨e1, hc, hf⟩
        simp only at e1 hc hf
        subst e1
        unfold l_30_35
        rw [if_neg (show ¬ Int32.ofNat 26 < 26 by decide)]
        exact ok_some ⟨hc, hf⟩
    obtain ⟨g1, k1, k2, k3⟩ := lp2
    rw [k1]
    simp only [Option.bind_some]
    have e5' : g1 q1 5 = df := by rw [k3 q1 (by omega)]; exact e5
    rw [e5', s_267]
    simp only [Option.bind_some]
    obtain ⟨g2, b1, b2, b3⟩ := c_68 (h := g1) (q := 29) (i := 26) (n := Int32.ofNat (cnt (bt (X &&& df)) 32)) (by decide)
    have b1' : p_68 g1 29 26 (Int32.ofNat (cnt (bt (X &&& df)) 32)) = some g2 := b1
    rw [b1']
    refine ⟨g2, rfl, fun j hj => ?_, ?_, fun q hq => ?_, fun b _ => ?_⟩
    · show cv g2 29 j (eru e df X j)
      unfold eru
      by_cases c : j = 26
      · subst c; rw [if_pos rfl]; exact b2
      · rw [if_neg c]
        have := cv_vfr (k2 j hj) b3 c
        have e6 : (j < 26 ∧ bt df j = true) ↔ (bt df j = true) := ⟨fun h => h.2, fun h => ⟨by omega, h⟩⟩
        simp only [e6] at this
        exact this
    · rw [b3.1 28 (by decide), k3 28 (by decide)]; exact h3
    · rw [b3.1 q (by omega), k3 q (by omega)]
    · rw [b3.1 28 (by decide), k3 28 (by decide)]
end S9f
