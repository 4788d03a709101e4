/-! ===== rules: the model, all ===== -/
section S9j
variable {T : List Int32} {c qr : Nat} {p : DP} {e fe : Nat → Option VL} {df us : Int32} {m m' : Hp} {d : DR}
theorem or_bit {x : Int32} {l : Nat} (hl : l < 32) : (x ||| (1 <<< (Int32.ofNat l &&& 31)) = x) ↔ bt x l = true := by
  constructor
  · intro h
    have : bt (x ||| (1 <<< (Int32.ofNat l &&& 31))) l = bt x l := by rw [h]
    rw [bt_or, bt_one hl] at this
    simpa using this.symm
  · intro h
    apply bt_ext
    intro i hi
    rw [bt_or, bt_one hl]
    by_cases e : i = l
    · subst e; rw [h]; rfl
    · simp [e]
theorem m_213b {g : Hp} (H : ld T g) : ∀ (C : List ST) (p0 : Nat) (x x4 h0 a0 : Int32) (N : Nat), CLS T C p0 → C ≠ [] → (p0 = 0 ∨ cat T (p0 - 1) = 59) → T.length + 4 ≤ N + p0 → w_lp (fun (s : Int32 × Int32 × Int32 × Int32 × Int32) => l_213_105 g qr s.1 s.2.1 s.2.2.1 s.2.2.2.1 s.2.2.2.2) N (x, x4, h0, a0, Int32.ofNat p0) = some (clr C x, if clr C x = x then x4 else 1) := by
  have hT := H.1
  intro C
  induction C with
  | nil => intro p0 x x4 h0 a0 N _ h; exact absurd rfl h
  | cons a C ih =>
    intro p0 x x4 h0 a0 N hC _ hp hN
    have hds0 := CLS_hds _ _ hC
    obtain ⟨r, l, h1, h2, h3, h4, h5, h6, h7, h8, h9, h10⟩ := hC
    obtain ⟨N, rfl⟩ : ∃ k, N = (k + 2 + (r - (p0 + 1))) + 1 := ⟨N - 3 - (r - (p0 + 1)), by omega⟩
    have hch : g 1127 p0 = cat T p0 := m_cat H (by omega)
    have n59 : ¬ cat T p0 = 59 := h7 p0 (Nat.le_refl _) h1
    have st1 : l_213_105 g qr x x4 h0 a0 (Int32.ofNat p0) = some (.inl (x, x4, 1 <<< (Int32.ofNat l &&& 31), ofB (alh T x (p0 + 1) (p0 + 1)), Int32.ofNat (p0 + 1))) := by
      have hle : Int32.ofNat p0 ≤ g 1076 66 := by rw [H.2.1]; exact (u_le (by omega) (by omega)).mpr (by omega)
      have hne : ¬ Int32.ofNat p0 = g 1076 66 := by
        rw [H.2.1]; intro hh
        have := (u_inj (by omega) (by omega)).mp hh
        omega
      unfold l_213_105
      rw [if_pos hle, if_neg hne, if_neg hne, u_ix (by omega) (by decide), u_cl (by omega), hch, if_neg n59]
      simp only [w_gd]
      unfold q_213_122
      rw [if_pos rfl]
      have fin : q_213_149 g qr x x4 (Int32.ofNat p0) = some (.inl (x, x4, 1 <<< (Int32.ofNat l &&& 31), ofB (alh T x (p0 + 1) (p0 + 1)), Int32.ofNat (p0 + 1))) := by
        unfold q_213_149
        rw [u_ix (by omega) (by decide), u_cl (by omega), hch, h4, s_162 h3, u_S, alh_self]
        rfl
      unfold q_213_137
      rw [if_pos rfl]
      by_cases p00 : p0 = 0
      · subst p00
        rw [if_pos (show Int32.ofNat 0 = 0 from rfl)]
        exact fin
      · have hn0 : ¬ Int32.ofNat p0 = 0 := fun hh => by
          have := (u_inj (a := p0) (b := 0) (by omega) (by decide)).mp hh
          omega
        have h59 : cat T (p0 - 1) = 59 := hp.elim (fun h => absurd h p00) id
        rw [if_neg hn0, u_prd (by omega), u_ix (by omega) (by decide), u_cl (by omega), m_cat H (show p0 - 1 < T.length by omega), if_pos h59]
        exact fin
    have st2 := l105_seg (qr := qr) (x := x) (x4 := x4) (h := 1 <<< (Int32.ofNat l &&& 31)) H h2 h7 (r - (p0 + 1)) (p0 + 1) (N + 2) (by omega) (Nat.lt_succ_self _)
    have hcond : (a.2.1 &&& (x ^^^ (-1)) = 0) ↔ alh T x (p0 + 1) r = true := alh_cond h8
    -- the end of the clause
    have st3 : l_213_105 g qr x x4 (1 <<< (Int32.ofNat l &&& 31)) (ofB (alh T x (p0 + 1) r)) (Int32.ofNat r) = some (.inl (clr1 a x, (if clr1 a x = x then x4 else 1), 1 <<< (Int32.ofNat l &&& 31), ofB (alh T x (p0 + 1) r), Int32.ofNat (r + 1))) := by
      have hle : Int32.ofNat r ≤ g 1076 66 := by rw [H.2.1]; exact (u_le (by omega) (by omega)).mpr (by omega)
      have h1s : ∀ A : Int32 → Option ((Int32 × Int32 × Int32 × Int32 × Int32) ⊕ Int32 × Int32), w_gd (if Int32.ofNat r = g 1076 66 then true else w_ix (Int32.ofNat r) 40) (A (if Int32.ofNat r = g 1076 66 then 1 else (if (g 1127 (Int32.ofNat r).toNatClampNeg) = 59 then 1 else 0 : Int32) : Int32)) = A 1 := by
        intro A
        by_cases hr : r = T.length
        · have : Int32.ofNat r = g 1076 66 := by rw [H.2.1, hr]
          rw [if_pos this, if_pos this]; rfl
        · have hc59 : cat T r = 59 := h9.elim (fun h => absurd h hr) id
          have hne : ¬ Int32.ofNat r = g 1076 66 := by
            rw [H.2.1]; intro hh
            exact hr ((u_inj (by omega) (by omega)).mp hh)
          rw [if_neg hne, if_neg hne, u_ix (by omega) (by decide), u_cl (by omega), m_cat H (show r < T.length by omega), hc59]
          rfl
      unfold l_213_105
      rw [if_pos hle, h1s]
      have tail : ∀ y y4 : Int32, q_213_137 g qr y y4 (1 <<< (Int32.ofNat l &&& 31)) (ofB (alh T x (p0 + 1) r)) (Int32.ofNat r) 1 = some (.inl (y, y4, 1 <<< (Int32.ofNat l &&& 31), ofB (alh T x (p0 + 1) r), Int32.ofNat (r + 1))) := by
        intro y y4
        unfold q_213_137 q_213_158
        rw [if_neg (by decide), if_neg (by decide), u_S]
      unfold q_213_122
      rw [if_neg (by decide)]
      unfold clr1
      by_cases hal : alh T x (p0 + 1) r = true
      · rw [if_neg (show ¬ ofB (alh T x (p0 + 1) r) = 0 by rw [hal]; decide), if_pos (hcond.mpr hal), h5]
        by_cases hx : bt x l = true
        · rw [if_neg (fun h => (u_bit (by omega)).mp h hx), (or_bit (by omega)).mpr hx, if_pos rfl]
          exact tail x x4
        · rw [if_pos ((u_bit (by omega)).mpr hx), if_neg (fun h => hx ((or_bit (by omega)).mp h))]
          exact tail _ 1
      · have hal' : alh T x (p0 + 1) r = false := by simpa using hal
        rw [if_pos (show ofB (alh T x (p0 + 1) r) = 0 by rw [hal']; rfl), if_neg (fun h => hal (hcond.mp h)), if_pos rfl]
        exact tail x x4
    have step : w_lp (fun (s : Int32 × Int32 × Int32 × Int32 × Int32) => l_213_105 g qr s.1 s.2.1 s.2.2.1 s.2.2.2.1 s.2.2.2.2) (N + 2 + (r - (p0 + 1)) + 1) (x, x4, h0, a0, Int32.ofNat p0) = w_lp (fun (s : Int32 × Int32 × Int32 × Int32 × Int32) => l_213_105 g qr s.1 s.2.1 s.2.2.1 s.2.2.2.1 s.2.2.2.2) (N + 1) (clr1 a x, (if clr1 a x = x then x4 else 1), 1 <<< (Int32.ofNat l &&& 31), ofB (alh T x (p0 + 1) r), Int32.ofNat (r + 1)) := by
      simp only [w_lp, st1]
      rw [st2]
      simp only [w_lp, st3]
    rw [step]
    by_cases hr : r = T.length
    · subst hr
      have hC0 := CLS_end h10
      subst hC0
      have hst4 : l_213_105 g qr (clr1 a x) (if clr1 a x = x then x4 else 1) (1 <<< (Int32.ofNat l &&& 31)) (ofB (alh T x (p0 + 1) T.length)) (Int32.ofNat (T.length + 1)) = some (.inr (clr1 a x, if clr1 a x = x then x4 else 1)) := by
        have hle : ¬ Int32.ofNat (T.length + 1) ≤ g 1076 66 := by
          rw [H.2.1]; intro hh
          have := (u_le (by omega) (by omega)).mp hh
          omega
        unfold l_213_105
        rw [if_neg hle]
      simp only [w_lp, hst4]
      rfl
    · have h59 : cat T r = 59 := h9.elim (fun h => absurd h hr) id
      have hne : C ≠ [] := by
        intro h; subst h
        have h10' : r + 1 = T.length + 1 := h10
        omega
      rw [ih (r + 1) (clr1 a x) (if clr1 a x = x then x4 else 1) _ _ (N + 1) h10 hne (Or.inr h59) (by omega), clr_cons]
      congr 2
      have hdsC : hds C := fun b hb => hds0 b (List.mem_cons_of_mem _ hb)
      by_cases hx : clr C (clr1 a x) = x
      · have hy : clr1 a x = x := by
          apply bt_ext
          intro i hi
          cases h1' : bt x i with
          | true => rw [clr1_bt h3 h5, h1']; rfl
          | false =>
            cases h2' : bt (clr1 a x) i with
            | false => rfl
            | true =>
              have := clr_mono C (clr1 a x) hdsC i h2'
              rw [hx, h1'] at this; cases this
        rw [if_pos hx, hy]
        rw [hy] at hx
        rw [if_pos hx, if_pos rfl]
      · rw [if_neg hx]
        by_cases hy : clr C (clr1 a x) = clr1 a x
        · rw [if_pos hy, if_neg (fun h => hx (hy.trans h))]
        · rw [if_neg hy]
theorem m_213c {g : Hp} {C : List ST} {x : Int32} (H : ld T g) (hC : CLS T C 0) (hne : C ≠ []) : w_lp (fun (s : Int32 × Int32) => l_213_95 g qr s.1 s.2) w_N (x, 1) = some (clrN C C.length x) := by
  have hT := H.1
  have hdC := CLS_hds C 0 hC
  have hlen : C.length ≤ 41 := by
    have : ∀ (C : List ST) (p : Nat), CLS T C p → C.length + p ≤ T.length + 1 := by
      intro C
      induction C with
      | nil => intro p h; have h' : p = T.length + 1 := h; show 0 + p ≤ _; omega
      | cons a C ih =>
        intro p h
        obtain ⟨r, l, h1, h2, -, -, -, -, -, -, -, h10⟩ := h
        have := ih (r + 1) h10
        rw [List.length_cons]; omega
    have := this C 0 hC
    omega
  have lp : ok (w_lp (fun (s : Int32 × Int32) => l_213_95 g qr s.1 s.2) w_N (x, 1)) (fun r => r = clrN C C.length x) := by
    refine ok_wh (fun n s => (s.2 = 1 ∧ n = muh C s.1 + 1 ∧ ∃ k, s.1 = clrN C k x) ∨ (s.2 = 0 ∧ n = 0 ∧ ∃ k, s.1 = clrN C k x ∧ clr C s.1 = s.1)) ?_ (muh C x + 1) (x, 1) w_N (Or.inl ⟨rfl, rfl, 0, rfl⟩) (by have := muh_le (C := C) (x := x); unfold w_N; omega)
    rintro n ⟨y, z⟩ (⟨e1, e2, k, e3⟩ | ⟨e1, e2, k, e3, e4⟩)
    · simp only at e1 e2 e3
      subst e1; subst e2
      have sc := m_213b (qr := qr) H C 0 y 0 0 1 w_N hC hne (Or.inl rfl) (by unfold w_N; omega)
      have hst : l_213_95 g qr y 1 = some (.inl (clr C y, if clr C y = y then 0 else 1)) := by
        unfold l_213_95
        rw [if_neg (by decide)]
        rw [show w_lp (fun (s : Int32 × Int32 × Int32 × Int32 × Int32) => l_213_105 g qr s.1 s.2.1 s.2.2.1 s.2.2.2.1 s.2.2.2.2) w_N (y, 0, 0, 1, 0) = _ from sc]
        rfl
      refine ok_E hst ?_
      by_cases hx : clr C y = y
      · refine ⟨0, Nat.succ_pos _, Or.inr ⟨by simp only [hx, if_true], rfl, k, by simp only [hx]; exact e3, by simp only [hx]⟩⟩
      · refine ⟨muh C (clr C y) + 1, by have := muh_lt hdC hx; omega, Or.inl ⟨by simp only [hx, if_false], rfl, k + 1, by rw [clrN_S, ← e3]⟩⟩
    · simp only at e1 e2 e3 e4
      subst e1
      have hst : l_213_95 g qr y 0 = some (.inr y) := by
        unfold l_213_95
        rw [if_pos rfl]
      refine ok_E hst ?_
      show y = _
      rw [e3] at e4 ⊢
      exact clrN_eq hdC e4
  obtain ⟨r, h1, h2⟩ := lp
  rw [h1, h2]
theorem and_11 {x z : Int32} {k : Nat} (hk : k < 32) : ((x >>> (Int32.ofNat k &&& 31)) &&& (z >>> (Int32.ofNat k &&& 31))) &&& 1 = if (bt x k && bt z k) = true then 1 else 0 := by
  have e : ∀ a b : Int32, (a &&& b) &&& 1 = (a &&& 1) &&& (b &&& 1) := by
    intro a b
    apply bt_ext
    intro i hi
    rw [bt_and, bt_and, bt_and, bt_and, bt_and]
    cases bt a i <;> cases bt b i <;> cases bt 1 i <;> rfl
  rw [e, bt_shr hk, bt_shr hk]
  cases bt x k <;> cases bt z k <;> rfl
theorem m_213d {g : Hp} {y : Int32} (hc : c < 16) (h77 : g 1076 77 = Int32.ofNat c) (hdf : g 1083 c = df) : ∃ g', w_lp (fun (s : Int32 × Int32 × Hp) => l_213_187 y s.1 s.2.1 s.2.2) w_N (0, 0, g) = some (Int32.ofNat (cnt (fun j => bt y j && bt df j) 26), g') ∧ w_fr (fun q => q = 1131) g g' ∧ ∀ j, j < 26 → mv g' 1131 (9 * j) (some (.inl (if (bt y j && bt df j) = true then 1 else 0))) := by
  have lp : ok (w_lp (fun (s : Int32 × Int32 × Hp) => l_213_187 y s.1 s.2.1 s.2.2) w_N (0, 0, g)) (fun r => r.1 = Int32.ofNat (cnt (fun j => bt y j && bt df j) 26) ∧ w_fr (fun q => q = 1131) g r.2 ∧ ∀ j, j < 26 → mv r.2 1131 (9 * j) (some (.inl (if (bt y j && bt df j) = true then 1 else 0)))) := by
    refine ok_for (fun i s => s.1 = Int32.ofNat (cnt (fun j => bt y j && bt df j) i) ∧ s.2.1 = Int32.ofNat i ∧ w_fr (fun q => q = 1131) g s.2.2 ∧ ∀ j, j < i → mv s.2.2 1131 (9 * j) (some (.inl (if (bt y j && bt df j) = true then 1 else 0)))) 26 ⟨rfl, rfl, w_fr_refl _ _, fun j hj => absurd hj (Nat.not_lt_zero j)⟩ (by decide) ?_ ?_
    · rintro i ⟨s, t, g1⟩ hi ⟨e1, e2, f, hv⟩
      simp only at e1 e2 f hv
      subst e1; subst e2
      have hlt : Int32.ofNat i < 26 := (u_ltL (by omega) (by decide)).mpr hi
      have k77 : g1 1076 77 = Int32.ofNat c := by rw [f 1076 (by decide)]; exact h77
      have kdf : g1 1083 c = df := by rw [f 1083 (by decide)]; exact hdf
      show ok (l_213_187 y (Int32.ofNat (cnt (fun j => bt y j && bt df j) i)) (Int32.ofNat i) g1) _
      unfold l_213_187
      rw [if_pos hlt, k77, u_ix hc (by decide), u_9, u_ix (by omega) (by decide), u_cl (by omega), u_S, u_ix (by omega) (by decide), u_cl (by omega), u_cl (by omega), kdf, and_11 (by omega), u_S]
      simp only [w_gd, w_let]
      refine ok_some ⟨?_, rfl, ?_, fun j hj => ?_⟩
      · show _ + _ = Int32.ofNat (cnt (fun j => bt y j && bt df j) i + (if (bt y i && bt df i) = true then 1 else 0))
        by_cases hb : (bt y i && bt df i) = true
        · rw [if_pos hb, if_pos hb, u_S]
        · rw [if_neg hb, if_neg hb]
          have := u_addL (cnt (fun j => bt y j && bt df j) i) 0
          exact this
      · exact w_fr_up (w_fr_up f rfl) rfl
      · by_cases ej : j = i
        · subst ej
          exact ⟨by dsimp only; rw [w_up_b (by omega), w_up_at], w_up_at⟩
        · exact mv_fr (hv j (by omega)) (fun b b1 b2 => by dsimp only; rw [w_up_b (by omega), w_up_b (by omega)])
    · rintro ⟨s, t, g1⟩ ⟨e1, e2, f, hv⟩
      simp only at e1 e2 f hv
      subst e1; subst e2
      show ok (l_213_187 y (Int32.ofNat (cnt (fun j => bt y j && bt df j) 26)) (Int32.ofNat 26) g1) _
      unfold l_213_187
      rw [if_neg (show ¬ Int32.ofNat 26 < 26 by decide)]
      exact ok_some ⟨rfl, f, hv⟩
  obtain ⟨⟨r, g'⟩, l1, l2, l3, l4⟩ := lp
  simp only at l2 l3 l4
  subst l2
  exact ⟨g', l1, l3, l4⟩
/-- rules are run -/
theorem m_213 {C : List ST} (hq : qres qr) (hC : CLS T C 0) (hne : C ≠ []) (hh : ∀ a ∈ C, ∃ h, h < 26 ∧ a.1 = Int32.ofNat h ∧ bt df h = true) (hdf : ∀ j, 26 ≤ j → j < 32 → bt df j = false) (hu : ∀ j, j < 32 → bt us j = (lbt T 0 T.length j && !bt df j)) (he : ∀ j, j < 26 → bt us j = true → e j = fe j) (H : RB T c qr fe df m) (D : dm m c p d) : ∃ m', p_213 m qr = some m' ∧ evg c qr m m' ∧ dm m' c p d ∧ ((rul C df us e d).1 = 0 → m' 1076 75 = 0 ∧ (∀ j, j < 26 → bt df j = true → mv m' 1131 (9 * j) ((rul C df us e d).2.2.1 j)) ∧ mv m' qr (9 * c) ((rul C df us e d).2.2.1 26)) ∧ (¬ (rul C df us e d).1 = 0 → m' 1076 75 = (rul C df us e d).1 ∧ m' 1076 76 = (rul C df us e d).2.1) := by
  have hT := H.1.1
  have hqn : qr ≠ 1130 ∧ qr ≠ 1076 ∧ qr ≠ 1127 ∧ qr ≠ 1131 ∧ qr ≠ 1095 ∧ qr ≠ 1099 ∧ qr ≠ 1132 := by unfold qres at hq; omega
  have evr : ∀ m', rvf m m' → evg c qr m m' := fun m' f => evg_evf hq ⟨w_fr_mono f.1 (fun q hq => by unfold evfP; omega), fun b _ _ _ h4 h5 _ _ => f.2 b h4 h5, fun b _ => by rw [f.1 1095 (by decide)]⟩
  have dmr : ∀ m', rvf m m' → dm m' c p d := fun m' f => dm_fr D (f.1 1095 (by decide)) (f.1 1099 (by decide)) (fun b _ _ _ h4 h5 => f.2 b h4 h5)
  unfold p_213
  rcases m_213a hq (fun j hj => hu j (by omega)) he C 0 0 0 m w_N hC hne (Or.inl rfl) hh H (by unfold w_N; omega) with ⟨a, y, m1, a1, a2, a3, a4, a5⟩ | ⟨a1, y, m1, a2, a3, a4, a5⟩
  · have hr : rul C df us e d = (1, a.2.2, e, [], d) := by unfold rul; rw [a1]
    rw [hr, show w_lp (fun (s : Int32 × Int32 × Int32 × Hp) => l_213_6 qr s.1 s.2.1 s.2.2.1 s.2.2.2) w_N (0, 0, 0, m) = _ from a2]
    simp only [Option.bind_some]
    unfold q_213_88 q_213_94
    rw [if_neg (show ¬ m1 1076 75 = 0 by rw [a3]; decide)]
    have e95 : w_lp (fun (s : Int32 × Int32) => l_213_95 m1 qr s.1 s.2) w_N (y, 0) = some y := by
      refine u_once (by decide) ?_
      show l_213_95 m1 qr y 0 = _
      unfold l_213_95
      rw [if_pos rfl]
    rw [e95]
    simp only [Option.bind_some]
    have k77 : m1 1076 77 = Int32.ofNat c := by rw [a5.2 77 (by decide) (by decide)]; exact H.2.2.2.1
    have kdf : m1 1083 c = df := by rw [a5.1 1083 (by decide)]; exact H.2.2.2.2.1
    obtain ⟨m2, b1, b2, b3⟩ := m_213d (y := y) H.2.2.1 k77 kdf
    rw [b1]
    simp only [Option.bind_some, w_let]
    have h16 := H.2.2.1
    have k77' : m2 1076 77 = Int32.ofNat c := by rw [b2 1076 (by decide)]; exact k77
    rw [k77', u_9, u_ix (by rw [w_len_qr hq]; omega) (by rw [w_len_qr hq]; omega), u_cl (by omega), w_up_q (fun h => hqn.2.1 h.symm), k77', u_9, u_S, u_ix (by rw [w_len_qr hq]; omega) (by rw [w_len_qr hq]; omega), u_cl (by omega)]
    simp only [w_gd]
    generalize Int32.ofNat (cnt (fun j => bt y j && bt df j) 26) = z
    have hqq : ∀ q, q ≠ qr → q ≠ 1131 → w_up (w_up m2 qr (9 * c) (-1)) qr (9 * c + 1) z q = m1 q := fun q n1 n2 => by
      rw [show w_up (w_up m2 qr (9 * c) (-1)) qr (9 * c + 1) z q = m2 q from funext fun b => by rw [w_up_q n1, w_up_q n1], b2 q n2]
    refine ⟨_, rfl, evg_trans (evr m1 a5) ⟨fun q hq2 => hqq q (fun h => hq2 (Or.inr (Or.inr h))) (fun h => hq2 (Or.inr (Or.inl h))), fun b _ _ _ _ _ _ _ _ _ => ?_, fun b _ => ?_, fun b hb => ?_⟩, ?_, fun h => absurd h (show ¬ (1 : Int32) = 0 by decide), fun _ => ⟨?_, ?_⟩⟩
    · rw [hqq 1076 (fun h => hqn.2.1 h.symm) (by decide)]
    · rw [hqq 1095 (fun h => hqn.2.2.2.2.1 h.symm) (by decide)]
    · rw [w_up_b (by omega), w_up_b (by omega), b2 qr hqn.2.2.2.1]
    · exact dm_fr (dmr m1 a5) (hqq 1095 (fun h => hqn.2.2.2.2.1 h.symm) (by decide)) (hqq 1099 (fun h => hqn.2.2.2.2.2.1 h.symm) (by decide)) (fun b _ _ _ _ _ => by rw [hqq 1076 (fun h => hqn.2.1 h.symm) (by decide)])
    · rw [hqq 1076 (fun h => hqn.2.1 h.symm) (by decide)]; exact a3
    · rw [hqq 1076 (fun h => hqn.2.1 h.symm) (by decide)]; exact a4
  · have hr : rul C df us e d = (0, 0, eru e df (clrN C C.length (bas e us)), [], d) := by unfold rul; rw [a1]
    rw [hr, show w_lp (fun (s : Int32 × Int32 × Int32 × Hp) => l_213_6 qr s.1 s.2.1 s.2.2.1 s.2.2.2) w_N (0, 0, 0, m) = _ from a2]
    simp only [Option.bind_some]
    have ey : y = bas e us := by
      apply bt_ext
      intro j hj
      rw [a5 j hj, bt_zero, Bool.false_or]
      unfold bas
      rw [bt_sbo 26 j (by decide), Nat.zero_add, Nat.sub_zero, decide_eq_true (Nat.zero_le j), Bool.true_and]
      by_cases h26 : j < 26
      · rw [decide_eq_true h26, Bool.true_and, hu j hj]
        cases hl : (lbt T 0 T.length j && !bt df j) with
        | false => rw [Bool.false_and, Bool.false_and]
        | true => rw [he j h26 (by rw [hu j hj]; exact hl)]
      · rw [decide_eq_false h26, Bool.false_and]
        have : lbt T 0 T.length j = false := by
          cases hl : lbt T 0 T.length j with
          | false => rfl
          | true =>
            obtain ⟨k, -, -, k3⟩ := lbt_iff.mp hl
            exact absurd (lb_26 hj k3) h26
        rw [this]; rfl
    subst ey
    unfold q_213_88 q_213_94
    rw [if_pos a3.2.2.2.2.2.1, m_213c (x := bas e us) a3.1 hC hne]
    simp only [Option.bind_some]
    generalize hX : clrN C C.length (bas e us) = X
    obtain ⟨m2, b1, b2, b3⟩ := m_213d (y := X) a3.2.2.1 a3.2.2.2.1 a3.2.2.2.2.1
    rw [b1]
    simp only [Option.bind_some, w_let]
    have h16 := H.2.2.1
    have k77' : m2 1076 77 = Int32.ofNat c := by rw [b2 1076 (by decide)]; exact a3.2.2.2.1
    rw [k77', u_9, u_ix (by rw [w_len_qr hq]; omega) (by rw [w_len_qr hq]; omega), u_cl (by omega), w_up_q (fun h => hqn.2.1 h.symm), k77', u_9, u_S, u_ix (by rw [w_len_qr hq]; omega) (by rw [w_len_qr hq]; omega), u_cl (by omega)]
    simp only [w_gd]
    have ecnt : cnt (fun j => bt X j && bt df j) 26 = cnt (bt (X &&& df)) 32 := by
      have e1 : ∀ k, cnt (fun j => bt X j && bt df j) k = cnt (bt (X &&& df)) k := by
        intro k
        induction k with
        | zero => rfl
        | succ k ih => simp only [cnt, ih, bt_and]
      have e2 : ∀ k, k ≤ 6 → cnt (bt (X &&& df)) (26 + k) = cnt (bt (X &&& df)) 26 := by
        intro k
        induction k with
        | zero => intro _; rfl
        | succ k ih =>
          intro hk
          show cnt (bt (X &&& df)) (26 + k) + (if bt (X &&& df) (26 + k) = true then 1 else 0) = _
          rw [ih (by omega), bt_and, hdf (26 + k) (by omega) (by omega), Bool.and_false, if_neg (by decide), Nat.add_zero]
      rw [e1, ← e2 6 (by decide)]
    rw [ecnt]
    generalize hz : Int32.ofNat (cnt (bt (X &&& df)) 32) = z
    have hqq : ∀ q, q ≠ qr → q ≠ 1131 → w_up (w_up m2 qr (9 * c) (-1)) qr (9 * c + 1) z q = m1 q := fun q n1 n2 => by
      rw [show w_up (w_up m2 qr (9 * c) (-1)) qr (9 * c + 1) z q = m2 q from funext fun b => by rw [w_up_q n1, w_up_q n1], b2 q n2]
    refine ⟨_, rfl, evg_trans (evr m1 (rvf_f a4)) ⟨fun q hq2 => hqq q (fun h => hq2 (Or.inr (Or.inr h))) (fun h => hq2 (Or.inr (Or.inl h))), fun b _ _ _ _ _ _ _ _ _ => ?_, fun b _ => ?_, fun b hb => ?_⟩, ?_, fun _ => ⟨?_, fun j hj hd => ?_, ?_⟩, fun h => absurd trivial h⟩
    · rw [hqq 1076 (fun h => hqn.2.1 h.symm) (by decide)]
    · rw [hqq 1095 (fun h => hqn.2.2.2.2.1 h.symm) (by decide)]
    · rw [w_up_b (by omega), w_up_b (by omega), b2 qr hqn.2.2.2.1]
    · exact dm_fr (dmr m1 (rvf_f a4)) (hqq 1095 (fun h => hqn.2.2.2.2.1 h.symm) (by decide)) (hqq 1099 (fun h => hqn.2.2.2.2.2.1 h.symm) (by decide)) (fun b _ _ _ _ _ => by rw [hqq 1076 (fun h => hqn.2.1 h.symm) (by decide)])
    · rw [hqq 1076 (fun h => hqn.2.1 h.symm) (by decide)]; exact a3.2.2.2.2.2.1
    · show mv _ 1131 (9 * j) (eru e df X j)
      have e1 : eru e df X j = some (.inl (if (bt X j && bt df j) = true then 1 else 0)) := by
        unfold eru
        rw [if_neg (by omega), if_pos hd, hd, Bool.and_true]
      rw [e1]
      exact mv_fr (b3 j hj) (fun b _ _ => by rw [w_up_q (fun h => hqn.2.2.2.1 h.symm), w_up_q (fun h => hqn.2.2.2.1 h.symm)])
    · show mv _ qr (9 * c) (eru e df X 26)
      have e1 : eru e df X 26 = some (.inl z) := by
        unfold eru; rw [if_pos rfl, hz]
      rw [e1]
      exact ⟨by rw [w_up_b (by omega), w_up_at], w_up_at⟩
end S9j
