/-! ===== the plain program, anew, in both ===== -/
/-- what the class touches in the plain run of c -/
def pnP (c z : Nat) : Prop := z = 40 ∨ xP z ∨ z = 46 ∨ z = 47 ∨ z = 64 * c + 63 ∨ z = 64 * c + 64
/-- the plain program, up to the place i of its list l; the cells of x gave something -/
def PI (h0 m0 h m : Hp) (n nw k B : Nat) (l : List Nat) (i : Nat) (x : Int32) : Prop :=
  CP h m n nw k B ∧ RN n nw h0 m0 h m ∧ LK h m n nw ∧ (m 1076 64 = Int32.ofNat l.length ∧ ∀ i, i < l.length → m 1126 i = Int32.ofNat (l.getD i 0)) ∧ (∀ j, j < n → bt x j = true → ∃ V : Nat → Option VL, (∀ x, x < 27 → cv h (64 * j + 62) x (V x)) ∧ (∀ x, x < 26 → mv m 1123 (234 * j + 9 * x) (V x)) ∧ mv m 1124 (9 * j) (V 26)) ∧ (∀ j, j < n → (bt x j = true ↔ ¬ m 1125 j = 0)) ∧ ∀ j, j < 32 → bt x j = true → ∃ i', i' < i ∧ l.getD i' 0 = j
section SC3
variable {h h' h1 hE m m' m1 h0 m0 : Hp} {n nw k B b c : Nat} {T : List Int32} {lang us x y : Int32} {s : Nat → Int32}
theorem tld_12 {D T L : List Int32} : tld 1 D T L = tld 2 D T L := by
  unfold tld
  by_cases h : D = T
  · rw [if_pos ⟨by decide, h⟩, if_pos ⟨by decide, h⟩]
  · rw [if_neg (fun e => h e.2), if_neg (fun e => h e.2)]
/-- one cell of the plain program is run, only tried -/
theorem pl_step {V : Nat → Nat → Option VL} (H : CP h m n nw k B) (hc : c < n) (h5 : ¬ twh h n nw 26 c = true) (hT : ∀ j, j < n → ndc h n nw c j = true → ¬ twh h n nw 26 j = true) (hV : ∀ j, j < n → ndc h n nw c j = true → (∀ x, x < 27 → cv h (64 * j + 62) x (V j x)) ∧ ∀ x, x < 26 → mv m 1123 (234 * j + 9 * x) (V j x)) : ∃ (r : Int32) (h1 h2 h3 hE m' : Hp) (W : Nat → Option VL), p_141 h (Int32.ofNat c) 1 = some h1 ∧ p_53 h1 (64 * c + 65) (64 * c + 53) 1 0 = some h2 ∧ p_16 h2 (64 * c + 55) 45 = some (r, h3) ∧ (r = 0 → p_17 h3 (64 * c + 55) (64 * c + 62) = some hE) ∧ (¬ r = 0 → hE = h3) ∧ p_216 m (Int32.ofNat c) 2 1123 1124 = some (ofB (decide (r = 0)), m') ∧ w_fr (pnP c) h hE ∧ (hE 40 0 = h 40 0 ∧ hE 40 1 = h 40 1) ∧ w_fr (fun q => mevP 1123 1124 q ∧ q ≠ 1095) m m' ∧ (∀ b, mSl b ∨ b = 64 ∨ b = 79 → m' 1076 b = m 1076 b) ∧ vld m' 1123 ∧ (∀ b, b < 234 * c ∨ 234 * c + 234 ≤ b → m' 1123 b = m 1123 b) ∧ (∀ b, b < 9 * c ∨ 9 * c + 9 ≤ b → m' 1124 b = m 1124 b) ∧ (r = 0 → (∀ x, x < 27 → cv hE (64 * c + 62) x (W x)) ∧ (∀ x, x < 26 → mv m' 1123 (234 * c + 9 * x) (W x)) ∧ mv m' 1124 (9 * c) (W 26)) := by
  obtain ⟨⟨b1, b2⟩, J, Wm, RR, S, Q, G, Y, P, CC, V1, V2, V3⟩ := H
  have h16 := J.1
  have hc16 : c < 16 := by omega
  obtain ⟨T, C, -⟩ := CC c hc
  generalize hla : m 1081 c = lang at C
  obtain ⟨-, ⟨D, L, hD, hM⟩, -⟩ := P c hc16
  obtain ⟨c1, c2, c3, c4, c5, c6, c7, c8, c9⟩ := C
  have hus : h (64 * c + 55) 7 = (rdA T lang).2.2.2.2.2.2.2 := c4.2.2.2.2.2.2
  have nsv1 := nsv_ok J Wm hc h5 hT hus
  have giv : ∀ x, x < 26 → bt (rdA T lang).2.2.2.2.2.2.2 x = true → ∀ j, j < 16 → gvr h n nw c x = some j → j < n ∧ ndc h n nw c j = true := by
    intro x hx hu j hj hg
    have hb := (lst_lt 20 hg).2
    have hd : ndc h n nw c j = true := by
      unfold ndc ndh
      simp only [Bool.and_eq_true, decide_eq_true_eq]
      exact ⟨(anyb_iff 26).mpr ⟨x, hx, by rw [hus, hu, Bool.true_and]; exact hb⟩, hj⟩
    exact ⟨ndc_lt h16 hd, hd⟩
  obtain ⟨h1, p1, v1, f1⟩ := c_141 (h := h) (n := n) (nw := nw) (c := c) (V := V) (us := (rdA T lang).2.2.2.2.2.2.2) (x2 := 1) (o := 62) h16 J.2.2.2.1 J.2.1 J.2.2.1 J.2.2.2.2.2.1 hc hus (Or.inr ⟨by decide, rfl⟩) nsv1 (fun x hx hu j hj hg => by
    obtain ⟨a, b⟩ := giv x hx hu j hj hg
    exact (hV j a b).1 x (by omega))
  obtain ⟨fe, F1, F2⟩ := m_FH (how := 2) (q := 1123) (V := V) Wm hc (Or.inl ⟨rfl, rfl⟩) V2 nsv1 RR.1 (fun x hx hu j hj hg => by
    obtain ⟨a, b⟩ := giv x hx hu j hj hg
    exact (hV j a b).2 x hx)
  generalize he : egt V h n nw c (rdA T lang).2.2.2.2.2.2.2 = e at v1 F2
  have e26 : e 26 = none := by rw [← he]; unfold egt; rw [if_neg (fun h => absurd h.1 (by decide))]
  obtain ⟨r, hr, m', a1, a2, a3, a4, a5, a6, a7, a8, a9, a10, a11, a12, a13, a14⟩ := m_216 (m := m) (c := c) (T := T) (lang := lang) (q3 := 1123) (q4 := 1124) (how := 2) (p := (true, tld 1 D T L, h 40 1)) (e := e) (fe := fe) (D := D) (L := L) (Or.inr ⟨rfl, rfl⟩) hc16 c1 (Or.inr (Or.inr rfl)) c2 c5 c6 c7 F1 hM ⟨fun _ => rfl, fun _ => rfl⟩ tld_12 S.2.1 F2 e26
  have e40 : h1 40 = h 40 := f1 40 (by omega)
  have g1 : ∀ z, z ≠ 46 → z ≠ 47 → h1 z = h z := fun z n1 n2 => f1 z (by omega)
  obtain ⟨h2, d1, d2, -, d4, d5, -⟩ := c_53 (h := h1) (c := c) (T := T) (D := D) (L := L) (x3 := 1) (x4 := 0) hc16 (tx_fr2 c3 (g1 _ (by omega) (by omega)) (g1 _ (by omega) (by omega))) (drc_fr hD (fun z n1 n2 => g1 z (by omega) (by omega))) (Or.inl rfl)
  have ed : decide ((0 : Int32) = 0) = true := by decide
  rw [ed, e40, S.1] at d2
  have g2 : ∀ z, z ≠ 40 → h2 z = h1 z := fun z n1 => d4 z (fun hh => by
    rcases hh with hh | ⟨hh, -⟩
    · exact n1 hh
    · exact absurd hh (by decide))
  have f2 : ∀ z, z ≠ 40 → z ≠ 46 → z ≠ 47 → h2 z = h z := fun z n1 n2 n3 => (g2 z n1).trans (g1 z n2 n3)
  have h25 : h2 40 5 = 0 := d2.1.2.2.2.2.2.2.2.2.1.mpr rfl
  have c4' : cd h2 (64 * c + 55) (rdA T lang).2 lang := cd_fr c4 (f2 _ (by omega) (by omega) (by omega)) (f2 _ (by omega) (by omega) (by omega)) (f2 _ (by omega) (by omega) (by omega)) (f2 _ (by omega) (by omega) (by omega))
  obtain ⟨h3, k1, k2, k3, k4, k5, k6, k7, k8⟩ := c_evt (h := h2) (R := 64 * c + 65) (p := (true, tld 1 D T L, h 40 1)) (q1 := 64 * c + 55) (q2 := 45) (dr := (0, m 1076 31, [])) (e := e) (r := r) ⟨by omega, by omega⟩ (by decide) c3.1 c1 c2 c4' (fun i hi => cv_fr (v1 i hi) (g2 _ (by decide)) (g2 _ (by decide))) d2 hr
  obtain ⟨t1, t2, t3⟩ := k8 h25
  have xPn : ∀ z, 40 < z → ¬ xP z := fun z hz hx => by unfold xP at hx; omega
  have f3 : ∀ z, ¬ xP z → z ≠ 40 → z ≠ 46 → z ≠ 47 → h3 z = h z := fun z n0 n1 n2 n3 => by
    by_cases z1 : z = 64 * c + 65
    · subst z1; rw [t1]; exact f2 _ n1 n2 n3
    by_cases z2 : z = 64 * c + 65 + 3
    · subst z2; rw [t2]; exact f2 _ n1 n2 n3
    rw [k5 z (fun hh => by rcases hh with hh | hh | hh | hh; exact n0 hh; exact n1 hh; exact z1 hh; exact z2 hh)]
    exact f2 z n1 n2 n3
  have q0 : h3 40 0 = h 40 0 := by rw [t3, d5 0 (by omega), e40]
  have q1 : h3 40 1 = h 40 1 := by rw [k6 1 (by decide) (by decide), d5 1 (by omega), e40]
  have q31 : m' 1076 31 = m 1076 31 := by
    have w1 : h3 40 0 = r.2.2.2.2.2.1 := k3.1.2.2.2.2.2.2.2.2.2.1
    rw [a6, ← w1, q0, S.1]
  have fm : w_fr (fun q => mevP 1123 1124 q ∧ q ≠ 1095) m m' := fun q hq => by
    by_cases h95 : q = 1095
    · subst h95; exact funext fun b => a9 b (Or.inr (Or.inr rfl))
    · exact a2 q (fun hh => hq ⟨hh, h95⟩)
  have f76 : ∀ b, mSl b ∨ b = 64 ∨ b = 79 → m' 1076 b = m 1076 b := fun b hb => by
    by_cases b29 : b = 29
    · subst b29; rw [a4]; exact S.2.2.1.symm
    by_cases b31 : b = 31
    · subst b31; exact q31
    unfold mSl at hb
    exact a3 b (by omega) b29 (by omega) b31 (by omega) (by omega) (by omega) (by omega) (by omega) (by omega) (by omega) (by omega) (by omega)
  have vl : vld m' 1123 := fun j x hj hx => by
    by_cases hjc : j = c
    · subst hjc; exact ⟨_, a12 x hx⟩
    · obtain ⟨v, hv⟩ := V2 j x hj hx
      exact ⟨v, mv_fr hv (fun b _ _ => a10 b (by omega))⟩
  have w26 : gvs (rdA T lang).2.2.2.2.2.1 (rdA T lang).2.2.2.2.2.2.1 r.2.2.1 26 = r.2.2.1 26 := by unfold gvs; rw [if_pos (Or.inl rfl)]
  by_cases hr0 : r.1 = 0
  · obtain ⟨h4, l1, l2, l3⟩ := c_17 (h := h3) (q1 := 64 * c + 55) (q2 := 64 * c + 62) (df := (rdA T lang).2.2.2.2.2.1) (ch := (rdA T lang).2.2.2.2.2.2.1) (e := r.2.2.1) (by omega) (by omega) ⟨by omega, by omega⟩ (by rw [f3 _ (xPn _ (by omega)) (by omega) (by omega) (by omega)]; exact c4.2.2.2.2.1) (by rw [f3 _ (xPn _ (by omega)) (by omega) (by omega) (by omega)]; exact c4.2.2.2.2.2.1) k2
    have e4 : h4 40 = h3 40 := l3 40 (by omega)
    refine ⟨r.1, h1, h2, h3, h4, m', gvs (rdA T lang).2.2.2.2.2.1 (rdA T lang).2.2.2.2.2.2.1 r.2.2.1, p1, d1, k1, fun _ => l1, fun hh => absurd hr0 hh, a1, fun z hz => ?_, ⟨by rw [e4]; exact q0, by rw [e4]; exact q1⟩, fm, f76, vl, a10, a11, fun _ => ⟨l2, fun x hx => ?_, ?_⟩⟩
    · unfold pnP at hz
      rw [l3 z (by omega)]
      exact f3 z (fun hh => hz (Or.inr (Or.inl hh))) (fun hh => hz (Or.inl hh)) (fun hh => hz (by omega)) (fun hh => hz (by omega))
    · have := a12 x hx
      rw [if_pos hr0] at this; exact this
    · rw [w26]; exact a13 hr0
  · refine ⟨r.1, h1, h2, h3, h3, m', fun _ => none, p1, d1, k1, fun hh => absurd hh hr0, fun _ => rfl, a1, fun z hz => ?_, ⟨q0, q1⟩, fm, f76, vl, a10, a11, fun hh => absurd hh hr0⟩
    unfold pnP at hz
    exact f3 z (fun hh => hz (Or.inr (Or.inl hh))) (fun hh => hz (Or.inl hh)) (fun hh => hz (by omega)) (fun hh => hz (by omega))
/-- the list of the plain program -/
theorem ordl_in {nd : Nat → Nat → Bool} {tw : Nat → Bool} : ∀ k i, i < (ordl n nd tw k).length → (ordl n nd tw k).getD i 0 < n ∧ okb n nd tw ((ordl n nd tw k).getD i 0) = true ∧ ∀ i', i' < i → (ordl n nd tw k).getD i' 0 ≠ (ordl n nd tw k).getD i 0 := by
  intro k
  induction k with
  | zero => intro i hi; simp [ordl] at hi
  | succ k ih =>
    intro i hi
    cases hf : fst1 (nxf n nd tw (ordl n nd tw k)) n with
    | none =>
      have e : ordl n nd tw (k + 1) = ordl n nd tw k := by simp only [ordl, hf]
      rw [e] at hi ⊢
      exact ih i hi
    | some c =>
      have e : ordl n nd tw (k + 1) = ordl n nd tw k ++ [c] := by simp only [ordl, hf]
      rw [e] at hi ⊢
      obtain ⟨g1, g2, -⟩ := fst1_lt n hf
      have lo : ∀ j, j < (ordl n nd tw k).length → (ordl n nd tw k ++ [c]).getD j 0 = (ordl n nd tw k).getD j 0 := fun j hj => by
        simp only [List.getD_eq_getElem?_getD]
        rw [List.getElem?_append_left hj]
      have la : (ordl n nd tw k ++ [c]).getD (ordl n nd tw k).length 0 = c := by
        simp [List.getD_eq_getElem?_getD]
      simp only [nxf, Bool.and_eq_true, Bool.not_eq_true', decide_eq_false_iff_not] at g2
      by_cases hl : i < (ordl n nd tw k).length
      · obtain ⟨i1, i2, i3⟩ := ih i hl
        rw [lo i hl]
        exact ⟨i1, i2, fun i' h' => by rw [lo i' (by omega)]; exact i3 i' h'⟩
      · have : i = (ordl n nd tw k).length := by simp at hi; omega
        subst this
        rw [la]
        refine ⟨g1, g2.1.1, fun i' h' => ?_⟩
        rw [lo i' h']
        intro hh
        apply g2.2
        rw [← hh, List.getD_eq_getElem?_getD, List.getElem?_eq_getElem h']
        exact List.getElem_mem h'
theorem okb_tw {nd : Nat → Nat → Bool} {tw : Nat → Bool} (h16 : n ≤ 16) (hc : c < n) (ho : okb n nd tw c = true) : ¬ tw c = true := by
  intro ht
  unfold okb at ho
  simp only [Bool.not_eq_true'] at ho
  have : anyb (fun j => (decide (j = c) || cl nd n c j) && (tw j || (decide (j < n) && cl nd n j j))) 32 = true := (anyb_iff 32).mpr ⟨c, by omega, by simp [ht]⟩
  rw [this] at ho; cases ho
/-- a step of both is behind -/
theorem pl_next {l : List Nat} {i : Nat} {x' v : Int32} (H : PI h0 m0 h m n nw k B l i x) (hc : c < n) (hi : l.getD i 0 = c) (hfr : bt x c = false) (f1 : w_fr (pnP c) h hE) (e40 : hE 40 0 = h 40 0 ∧ hE 40 1 = h 40 1) (fm : w_fr (fun q => mevP 1123 1124 q ∧ q ≠ 1095) m m') (f76 : ∀ b, mSl b ∨ b = 64 ∨ b = 79 → m' 1076 b = m 1076 b) (vl : vld m' 1123) (f23 : ∀ b, b < 234 * c ∨ 234 * c + 234 ≤ b → m' 1123 b = m 1123 b) (f24 : ∀ b, b < 9 * c ∨ 9 * c + 9 ≤ b → m' 1124 b = m 1124 b) (hb : ∀ j, j < 32 → bt x' j = (bt x j || (decide (j = c) && !decide (v = 0)))) (hW : ¬ v = 0 → ∃ W : Nat → Option VL, (∀ x, x < 27 → cv hE (64 * c + 62) x (W x)) ∧ (∀ x, x < 26 → mv m' 1123 (234 * c + 9 * x) (W x)) ∧ mv m' 1124 (9 * c) (W 26)) : PI h0 m0 hE (w_up m' 1125 c v) n nw k B l (i + 1) x' := by
  obtain ⟨H1, H2, H3, ⟨H4, H5⟩, H6, H7, H8⟩ := H
  have h16 := H1.2.1.1
  have q : ∀ z, z ≠ 1125 → (w_up m' 1125 c v) z = m' z := fun z hz => funext fun b => w_up_q hz
  have fq : ∀ z, ¬ (mevP 1123 1124 z ∧ z ≠ 1095) → z ≠ 1125 → (w_up m' 1125 c v) z = m z := fun z hz h2 => (q z h2).trans (fm z hz)
  have C' : CP hE (w_up m' 1125 c v) n nw k B := by
    refine CP_fr H1 ⟨Nat.le_refl _, H1.1.2⟩ (fun z hz => f1 z ?_) e40 (fun z hz => fq z ?_ ?_) (fun b hb => ?_) (fun j y hj hy => ?_)
    · unfold hRw at hz; unfold pnP xP; omega
    · unfold mRw at hz; unfold mevP evgP evfP; omega
    · unfold mRw at hz; omega
    · rw [q 1076 (by decide)]; exact f76 b (Or.inl hb)
    · obtain ⟨u, hu⟩ := vl j y hj hy
      exact ⟨u, mv_fr hu (fun b _ _ => by rw [q 1123 (by decide)])⟩
  have ec : ∀ j, hE (64 * j + 55) = h (64 * j + 55) := fun j => f1 _ (by unfold pnP xP; omega)
  obtain ⟨n1, n2⟩ := RN_55 (n := n) (nw := nw) (f1 5 (by unfold pnP xP; omega)) ec
  have R' : RN n nw h m hE (w_up m' 1125 c v) := ⟨fun z hz => f1 z (by unfold pnP xP; omega), fun z hz => fq z (by unfold mevP evgP evfP; omega) (by omega), by rw [q 1076 (by decide)]; exact f76 79 (Or.inr (Or.inr rfl)), n1, n2⟩
  refine ⟨C', RN_trans H2 R', LK_h (LK_fr H3 (fq 1120 (by unfold mevP evgP evfP; omega) (by decide)) (fq 1121 (by unfold mevP evgP evfP; omega) (by decide))) n1, ⟨?_, fun i hi => ?_⟩, fun j hj hx => ?_, fun j hj => ?_, fun j hj hx => ?_⟩
  · rw [q 1076 (by decide), f76 64 (Or.inr (Or.inl rfl))]; exact H4
  · rw [fq 1126 (by unfold mevP evgP evfP; omega) (by decide)]; exact H5 i hi
  · rw [hb j (by omega)] at hx
    by_cases hjc : j = c
    · subst hjc
      rw [hfr] at hx
      obtain ⟨W, w1, w2, w3⟩ := hW (fun hv => by rw [decide_eq_true hv] at hx; simp at hx)
      exact ⟨W, w1, fun y hy => mv_fr (w2 y hy) (fun b _ _ => by rw [q 1123 (by decide)]), mv_fr w3 (fun b _ _ => by rw [q 1124 (by decide)])⟩
    · rw [decide_eq_false hjc] at hx
      obtain ⟨W, w1, w2, w3⟩ := H6 j hj (by simpa using hx)
      exact ⟨W, fun y hy => cv_fr (w1 y hy) (f1 _ (by unfold pnP xP; omega)) (f1 _ (by unfold pnP xP; omega)), fun y hy => mv_fr (w2 y hy) (fun b _ _ => by rw [q 1123 (by decide)]; exact f23 b (by omega)), mv_fr w3 (fun b _ _ => by rw [q 1124 (by decide)]; exact f24 b (by omega))⟩
  · rw [hb j (by omega)]
    by_cases hjc : j = c
    · subst hjc
      rw [hfr, w_up_at]; simp
    · rw [w_up_b hjc, fm 1125 (by unfold mevP evgP evfP; omega), decide_eq_false hjc]
      simpa using H7 j hj
  · rw [hb j hj] at hx
    by_cases hjc : j = c
    · exact ⟨i, Nat.lt_succ_self i, by rw [hi, hjc]⟩
    · rw [decide_eq_false hjc] at hx
      obtain ⟨i', h1, h2⟩ := H8 j hj (by simpa using hx)
      exact ⟨i', by omega, h2⟩
/-- both go through the plain program -/
theorem pl_loop {l : List Nat} (hl : l = ordl n (ndc h0 n nw) (twh h0 n nw 26) n) : ∀ (d i : Nat) (x : Int32) (h m : Hp) (N M : Nat), i + d = l.length → PI h0 m0 h m n nw k B l i x → d + 1 ≤ N → d + 1 ≤ M → ∃ x' h' m', w_lp (fun (s : Int32 × Int32 × Hp) => l_142_4 s.1 s.2.1 s.2.2) N (x, Int32.ofNat i, h) = some (x', h') ∧ w_lp (fun (s : Int32 × Int32 × Hp) => l_240_18 s.1 s.2.1 s.2.2) M (x, Int32.ofNat i, m) = some m' ∧ PI h0 m0 h' m' n nw k B l l.length x' := by
  have hlen : l.length ≤ n := by rw [hl, ← ordl_cnt (n := n) n]; exact cnt_le _ n
  intro d
  induction d with
  | zero =>
    intro i x h m N M hd H hN hM
    obtain ⟨N, rfl⟩ : ∃ q, N = q + 1 := ⟨N - 1, by omega⟩
    obtain ⟨M, rfl⟩ : ∃ q, M = q + 1 := ⟨M - 1, by omega⟩
    obtain rfl : i = l.length := by omega
    have h16 := H.1.2.1.1
    have e5 : h 11 5 = Int32.ofNat l.length := by
      have := H.1.2.1.2.2.2.2.2.2.2.2.2.1
      rw [RN_ndc H.2.1, H.2.1.2.2.2.2, ← hl] at this; exact this
    have hn : ¬ Int32.ofNat l.length < Int32.ofNat l.length := by rw [u_lt (by omega) (by omega)]; omega
    refine ⟨x, h, m, lp_r ?_, lp_r ?_, H⟩
    · show l_142_4 x (Int32.ofNat l.length) h = _
      unfold l_142_4; rw [e5, if_neg hn]
    · show l_240_18 x (Int32.ofNat l.length) m = _
      unfold l_240_18; rw [H.2.2.2.1.1, if_neg hn]
  | succ d ih =>
    intro i x h m N M hd H hN hM
    obtain ⟨N, rfl⟩ : ∃ q, N = q + 1 := ⟨N - 1, by omega⟩
    obtain ⟨M, rfl⟩ : ∃ q, M = q + 1 := ⟨M - 1, by omega⟩
    have HH := H
    obtain ⟨H1, H2, H3, ⟨H4, H5⟩, H6, H7, H8⟩ := HH
    have h16 := H1.2.1.1
    have hi : i < l.length := by omega
    have hW := H1.2.1.2.2.2.2
    have e5 : h 11 5 = Int32.ofNat l.length := by
      have := hW.2.2.2.2.2.1
      rw [RN_ndc H2, H2.2.2.2.2, ← hl] at this; exact this
    have e16 : h 16 i = Int32.ofNat (l.getD i 0) := by
      have := hW.2.2.2.2.2.2
      rw [RN_ndc H2, H2.2.2.2.2, ← hl] at this; exact this i hi
    obtain ⟨g1, g2, g3⟩ : l.getD i 0 < n ∧ okb n (ndc h0 n nw) (twh h0 n nw 26) (l.getD i 0) = true ∧ ∀ i', i' < i → l.getD i' 0 ≠ l.getD i 0 := by
      have := ordl_in (n := n) (nd := ndc h0 n nw) (tw := twh h0 n nw 26) n i (by rw [← hl]; exact hi)
      rw [← hl] at this; exact this
    have e26 := H5 i hi
    generalize hcc : l.getD i 0 = c at g1 g2 g3 e16 e26
    have lt : Int32.ofNat i < Int32.ofNat l.length := (u_lt (by omega) (by omega)).mpr hi
    have e20 : m 1120 c = h 14 c := (lk_eq H1.2.1 H3 g1).1
    have hfr : bt x c = false := by
      cases hx : bt x c with
      | false => rfl
      | true =>
        obtain ⟨i', a, b⟩ := H8 c (by omega) hx
        exact absurd b (g3 i' a)
    have cls : l_142_4 x (Int32.ofNat i) h = q_142_30 h x (Int32.ofNat i) (Int32.ofNat c) (if (((h 14 c) &&& 65535) &&& (x ^^^ (-1))) = 0 then 0 else 1 : Int32) := by
      unfold l_142_4
      rw [e5, if_pos lt, u_ix (by omega) (by decide), u_cl (by omega), e16, u_ix (by omega) (by decide), u_cl (by omega)]
      rfl
    by_cases z : (((h 14 c) &&& 65535) &&& (x ^^^ (-1))) = 0
    · rw [if_pos z] at cls
      have hnd : ∀ j, j < n → ndc h n nw c j = true → bt x j = true := by
        intro j hj hd2
        have z2 := u_z0 (x := ((h 14 c) &&& 65535) &&& (x ^^^ (-1))) (f := fun j => ndc h n nw c j && !bt x j) (fun j hj => by
          rw [bt_and, bt_and, bt_not hj, u_all, (hW.2.2.2.1 c g1).1 j hj]; rfl)
        cases hx : bt x j with
        | true => rfl
        | false => exact absurd ((anyb_iff 32).mpr ⟨j, by omega, by rw [hd2, hx]; rfl⟩) (z2.mp z)
      have tw0 : ∀ j, twh h n nw 26 j = twh h0 n nw 26 j := fun j => by rw [H2.2.2.2.2]
      have hT : ∀ j, j < n → ndc h n nw c j = true → ¬ twh h n nw 26 j = true := by
        intro j hj hd2
        obtain ⟨i', a, b⟩ := H8 j (by omega) (hnd j hj hd2)
        have := ordl_in (n := n) (nd := ndc h0 n nw) (tw := twh h0 n nw 26) n i' (by rw [← hl]; omega)
        rw [← hl, b] at this
        rw [tw0]; exact okb_tw h16 hj this.2.1
      have hV : ∃ V : Nat → Nat → Option VL, ∀ j, j < n → bt x j = true → (∀ x, x < 27 → cv h (64 * j + 62) x (V j x)) ∧ ∀ x, x < 26 → mv m 1123 (234 * j + 9 * x) (V j x) := by
        have : ∀ j, ∃ v : Nat → Option VL, j < n → bt x j = true → (∀ x, x < 27 → cv h (64 * j + 62) x (v x)) ∧ ∀ x, x < 26 → mv m 1123 (234 * j + 9 * x) (v x) := by
          intro j
          by_cases hj : j < n ∧ bt x j = true
          · obtain ⟨V, v1, v2, -⟩ := H6 j hj.1 hj.2
            exact ⟨V, fun _ _ => ⟨v1, v2⟩⟩
          · exact ⟨fun _ => none, fun a b => absurd ⟨a, b⟩ hj⟩
        exact Classical.axiomOfChoice this
      obtain ⟨V, hV⟩ := hV
      obtain ⟨r, h1, h2, h3, hE, m', W, s1, s2, s3, s4, s5, s6, f1, e40, fm, f76, vl, f23, f24, hWW⟩ := pl_step H1 g1 (by rw [tw0]; exact okb_tw h16 g1 g2) hT (fun j hj hd2 => hV j hj (hnd j hj hd2))
      have nar : ∀ b : Bool, j_nar 52 (ofB b) = ofB b := fun b => by cases b <;> decide
      have mdl : l_240_18 x (Int32.ofNat i) m = some (.inl (x ||| (if ofB (decide (r = 0)) = 0 then 0 else (1 <<< (Int32.ofNat c &&& 31)) : Int32), Int32.ofNat (i + 1), w_up m' 1125 c (ofB (decide (r = 0))))) := by
        unfold l_240_18
        rw [H4, if_pos lt, u_ix (by omega) (by decide), u_cl (by omega), e26, u_ix (by omega) (by decide), u_cl (by omega), e20]
        simp only [w_gd]
        rw [if_pos z, s6]
        simp only [Option.bind_some, w_let, nar, w_up_at, u_S]
      by_cases hr : r = 0
      · have cl2 : l_142_4 x (Int32.ofNat i) h = some (.inl (x ||| (1 <<< (Int32.ofNat c &&& 31)), Int32.ofNat (i + 1), hE)) := by
          rw [cls]
          unfold q_142_30
          rw [if_pos rfl, s1, u_ix (by omega) (by decide), u_cl (by omega)]
          simp only [Option.bind_some, w_gd]
          rw [s2]
          simp only [Option.bind_some]
          rw [s3]
          simp only [Option.bind_some]
          rw [if_pos hr, s4 hr]
          simp only [Option.bind_some, u_S]
        rw [decide_eq_true hr, if_neg (by decide)] at mdl
        have Hn := pl_next (x' := x ||| (1 <<< (Int32.ofNat c &&& 31))) (v := ofB true) H g1 hcc hfr f1 e40 fm f76 vl f23 f24 (fun j hj => by
          rw [bt_or, bt_one (by omega)]
          have : decide (ofB true = 0) = false := by decide
          rw [this]; simp) (fun _ => ⟨W, hWW hr⟩)
        obtain ⟨x', h', m'', a, b, d2⟩ := ih (i + 1) _ _ _ N M (by omega) Hn (by omega) (by omega)
        exact ⟨x', h', m'', (lp_l cl2).trans a, (lp_l mdl).trans b, d2⟩
      · have cl2 : l_142_4 x (Int32.ofNat i) h = some (.inl (x, Int32.ofNat (i + 1), hE)) := by
          rw [cls]
          unfold q_142_30
          rw [if_pos rfl, s1, u_ix (by omega) (by decide), u_cl (by omega)]
          simp only [Option.bind_some, w_gd]
          rw [s2]
          simp only [Option.bind_some]
          rw [s3]
          simp only [Option.bind_some]
          rw [if_neg hr, s5 hr, u_S]
        rw [decide_eq_false hr, if_pos (by decide), show x ||| (0 : Int32) = x from Int32.or_zero] at mdl
        have Hn := pl_next (x' := x) (v := ofB false) H g1 hcc hfr f1 e40 fm f76 vl f23 f24 (fun j hj => by
          have : decide (ofB false = 0) = true := by decide
          rw [this]; simp) (fun hh => absurd rfl hh)
        obtain ⟨x', h', m'', a, b, d2⟩ := ih (i + 1) _ _ _ N M (by omega) Hn (by omega) (by omega)
        exact ⟨x', h', m'', (lp_l cl2).trans a, (lp_l mdl).trans b, d2⟩
    · rw [if_neg z] at cls
      have cl2 : l_142_4 x (Int32.ofNat i) h = some (.inl (x, Int32.ofNat (i + 1), h)) := by
        rw [cls]
        unfold q_142_30
        rw [if_neg (by decide), u_S]
      have mdl : l_240_18 x (Int32.ofNat i) m = some (.inl (x, Int32.ofNat (i + 1), m)) := by
        unfold l_240_18
        rw [H4, if_pos lt, u_ix (by omega) (by decide), u_cl (by omega), e26, u_ix (by omega) (by decide), u_cl (by omega), e20]
        simp only [w_gd]
        rw [if_neg z, u_S]
      obtain ⟨x', h', m'', a, b, d2⟩ := ih (i + 1) x h m N M (by omega) ⟨H1, H2, H3, ⟨H4, H5⟩, H6, H7, fun j hj hx => by
        obtain ⟨i', a, b⟩ := H8 j hj hx
        exact ⟨i', by omega, b⟩⟩ (by omega) (by omega)
      exact ⟨x', h', m'', (lp_l cl2).trans a, (lp_l mdl).trans b, d2⟩
/-- the whole plain program -/
theorem pl_both (H : CP h m n nw k B) : ∃ x h' m' l, p_142 h = some (x, h') ∧ p_240 m = some m' ∧ PI h m h' m' n nw k B l l.length x := by
  have h16 := H.2.1.1
  obtain ⟨g, a, f, b64, L, -, e64, e26⟩ := m_239 H.2.2.1 (ow := own h n nw) (fun c _ => by rcases own_4 (h := h) (n := n) (nw := nw) (c := c) with e | e | e <;> rw [e] <;> decide) (m_187 H.2.2.1 (fun c hc => (H.2.1.2.2.2.2.2.2.2.1 c hc).1) H.2.2.2.1)
  have lp : w_lp (fun (s : Int32 × Hp) => l_240_6 s.1 s.2) w_N (0, g) = some (w_fi g 1125 0 16 (fun _ => 0)) := by
    rw [show ((0, g) : Int32 × Hp) = (Int32.ofNat 0, w_fi g 1125 0 0 (fun _ => 0)) by rw [w_fi0]; rfl]
    refine u_for (N := w_N) (fun k => (Int32.ofNat k, w_fi g 1125 0 k (fun _ => 0))) 16 (by unfold w_N; omega) ?_ ?_
    · intro i hi
      have h1 : Int32.ofNat i < 16 := (u_ltL (by omega) (by decide)).mpr hi
      have h2 := w_fiS g 1125 0 i (fun _ => 0)
      rw [Nat.zero_add] at h2
      have h3 : j_nar 52 0 = 0 := by decide
      show l_240_6 (Int32.ofNat i) _ = _
      unfold l_240_6
      rw [if_pos h1, u_ix (by omega) (by decide), u_cl (by omega), h3, h2, u_S]
      rfl
    · show l_240_6 (Int32.ofNat 16) _ = _
      unfold l_240_6
      rw [if_neg (by decide)]
  generalize hm1 : w_fi g 1125 0 16 (fun _ => 0) = m1 at lp
  have q1 : ∀ z, z ≠ 1125 → m1 z = g z := fun z hz => by rw [← hm1]; exact funext fun b => w_fi_q hz
  have q2 : ∀ z, ¬ orP z → z ≠ 1125 → m1 z = m z := fun z h1 h2 => (q1 z h2).trans (f z h1)
  have C1 : CP h m1 n nw k B := CP_mod H (fun q hq => q2 q (by unfold mRw at hq; unfold orP lkP; omega) (by unfold mRw at hq; omega)) (fun b hb => by rw [q1 1076 (by decide)]; exact b64 b (by unfold mSl at hb; omega)) (q2 1123 (by unfold orP lkP; omega) (by decide))
  have st : PI h m h m1 n nw k B (ordl n (ndc h n nw) (twh h n nw 26) n) 0 0 := by
    refine ⟨C1, ⟨fun _ _ => rfl, fun q hq => q2 q (by unfold orP lkP; omega) (by omega), by rw [q1 1076 (by decide)]; exact b64 79 (by decide), rfl, rfl⟩, LK_fr L (q1 1120 (by decide)) (q1 1121 (by decide)), ⟨by rw [q1 1076 (by decide)]; exact e64, fun i hi => by rw [q1 1126 (by decide)]; exact e26 i hi⟩, fun j _ hx => ?_, fun j hj => ?_, fun j _ hx => ?_⟩
    · rw [bt_zero] at hx; cases hx
    · have : m1 1125 j = 0 := by rw [← hm1]; exact w_fi_at (Nat.zero_le j) (by omega)
      rw [bt_zero, this]; simp
    · rw [bt_zero] at hx; cases hx
  have hlen : (ordl n (ndc h n nw) (twh h n nw 26) n).length ≤ n := by rw [← ordl_cnt (n := n) n]; exact cnt_le _ n
  obtain ⟨x', h', m', c1, c2, c3⟩ := pl_loop (h0 := h) (m0 := m) rfl _ 0 0 h m1 w_N w_N (Nat.zero_add _) st (by unfold w_N; omega) (by unfold w_N; omega)
  refine ⟨x', h', m', _, c1, ?_, c3⟩
  unfold p_240
  rw [a]
  simp only [Option.bind_some]
  rw [lp]
  simp only [Option.bind_some]
  exact c2
/-- resultAnew -/
theorem call_18 (H : CI b h m) (hb : b + 20 ≤ 1000000) : OUT b h m (p_115 h x y) (p_241 m x y) [(2, 1), (1, 2)] := by
  obtain ⟨n, nw, k, hk, H⟩ := CI_up H hb
  have we := cell_eq (x := x) H
  by_cases e : v_125 h x = 0
  · refine OUT_x H (id := 2) (e := 1) (v := 0) ?_ ?_ (List.mem_cons_self ..)
    · unfold p_115; rw [if_pos e]
    · unfold p_241
      rw [we, if_pos e]
      unfold q_241_8
      rw [if_pos e, if_pos e]
      simp only [w_gd]
      unfold q_241_26
      rw [go_1 e]
      simp only [Option.bind_some, if_true, w_gd]
  · obtain ⟨c, hc, rfl⟩ := cell_nat H e
    have h16 := H.2.1.1
    obtain ⟨z, h2, m2, l, p1, p2, H2, R2, -, -, V2, Z2, -⟩ := pl_both H
    have l1124 : w_len 1124 = 144 := by decide +kernel
    have cls : p_115 h (Int32.ofNat c) y = if v_126 z (Int32.ofNat c) = 0 then some ((.inr 1), h2) else
      (w_gd (g_75 h2 (64 * c + 62) (Int32.ofNat 26) y) <|
      if (v_75 h2 (64 * c + 62) (Int32.ofNat 26) y) = 0 then
        (some ((.inr 1), h2))
      else
        (w_gd (g_76 h2 (64 * c + 62) (Int32.ofNat 26) y) <|
        some ((.inl (v_76 h2 (64 * c + 62) (Int32.ofNat 26) y)), h2))) := by
      unfold p_115
      rw [if_neg e, p1]
      simp only [Option.bind_some]
      rw [u_ix (by omega) (by decide), u_cl (by omega)]
      rfl
    have mdl0 : p_241 m (Int32.ofNat c) y = q_241_8 m2 (Int32.ofNat c) y (v_125 h (Int32.ofNat c)) := by
      unfold p_241
      rw [we, if_neg e, p2]
      rfl
    by_cases hz : bt z c = true
    · have hz' : ¬ m2 1125 c = 0 := (Z2 c hc).mp hz
      have hv126 : ¬ v_126 z (Int32.ofNat c) = 0 := fun hh => (v126_ne (by omega)).mp hh hz
      obtain ⟨V, g1, -, g3⟩ := V2 c hc hz
      obtain ⟨i1, i2, i3, i4⟩ := items (h := h2) (m := m2) (q := 64 * c + 62) (r := 1124) (o := 9 * c) (i := 26) (v := V 26) (y := y) (by decide) (g1 26 (by decide)) g3 (by rw [l1124]; omega) (by rw [l1124]; decide)
      rw [if_neg hv126, i2] at cls
      have mdl : p_241 m (Int32.ofNat c) y = q_241_26 m2 (Int32.ofNat c) y (v_125 h (Int32.ofNat c)) (if (v_236 m2 1124 (Int32.ofNat (9 * c)) y) = 0 then 0 else 1 : Int32) := by
        rw [mdl0]
        unfold q_241_8
        rw [if_neg e, if_neg e, u_ix (by omega) (by decide), u_cl (by omega), if_neg hz', if_neg hz', show (9 : Int32) * Int32.ofNat c = Int32.ofNat (9 * c) from u_Lmul c 9, i3]
        rfl
      by_cases hv : v_75 h2 (64 * c + 62) (Int32.ofNat 26) y = 0
      · refine ⟨.inr 1, h2, 0, w_up m2 1076 79 2, ?_, ?_, ⟨n, nw, k, CP_79 H2⟩, EF_trans (EF_RN R2) EF_76, Or.inr ⟨1, 2, List.mem_cons_of_mem _ (List.mem_singleton.mpr rfl), rfl, w_up_at⟩⟩
        · rw [cls]; simp only [w_gd]; rw [if_pos hv]
        · rw [mdl, ← i1, if_pos hv]
          unfold q_241_26
          rw [go_2 e rfl]
          simp only [Option.bind_some, if_true, w_gd]
      · obtain ⟨j1, j2, j3⟩ := i4 hv
        refine ⟨.inl (v_76 h2 (64 * c + 62) (Int32.ofNat 26) y), h2, v_76 h2 (64 * c + 62) (Int32.ofNat 26) y, w_up m2 1076 79 0, ?_, ?_, ⟨n, nw, k, CP_79 H2⟩, EF_trans (EF_RN R2) EF_76, Or.inl ⟨rfl, w_up_at⟩⟩
        · rw [cls]; simp only [w_gd]; rw [if_neg hv, j2]
        · rw [mdl, ← i1, if_neg hv]
          unfold q_241_26
          rw [go_0 e no10 no10]
          simp only [Option.bind_some, no10, if_false]
          rw [show (9 : Int32) * Int32.ofNat c = Int32.ofNat (9 * c) from u_Lmul c 9]
          have z1 : g_237 (w_up m2 1076 79 0) 1124 (Int32.ofNat (9 * c)) y = g_237 m2 1124 (Int32.ofNat (9 * c)) y := by
            unfold g_237; rw [w_up_q (by decide)]
          have z2 : v_237 (w_up m2 1076 79 0) 1124 (Int32.ofNat (9 * c)) y = v_237 m2 1124 (Int32.ofNat (9 * c)) y := by
            unfold v_237; simp only [w_up_q (show (1124 : Nat) ≠ 1076 by decide)]
          rw [z1, j3, z2, j1]
          rfl
    · have hz' : m2 1125 c = 0 := Classical.byContradiction fun hh => hz ((Z2 c hc).mpr hh)
      have hv126 : v_126 z (Int32.ofNat c) = 0 := (v126_ne (by omega)).mpr hz
      rw [if_pos hv126] at cls
      refine ⟨.inr 1, h2, 0, w_up m2 1076 79 2, cls, ?_, ⟨n, nw, k, CP_79 H2⟩, EF_trans (EF_RN R2) EF_76, Or.inr ⟨1, 2, List.mem_cons_of_mem _ (List.mem_singleton.mpr rfl), rfl, w_up_at⟩⟩
      rw [mdl0]
      unfold q_241_8
      rw [if_neg e, if_neg e, u_ix (by omega) (by decide), u_cl (by omega), if_pos hz', if_pos hz']
      simp only [Bool.and_self, w_gd]
      unfold q_241_26
      rw [go_2 e rfl]
      simp only [Option.bind_some, if_true, w_gd]
end SC3
