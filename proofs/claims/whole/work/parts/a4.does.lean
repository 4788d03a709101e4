/-! ===== a cell is run, or found again, by both ===== -/
theorem cnt_1 {f : Nat → Bool} : ∀ n, 1 ≤ cnt f n → ∃ i, i < n ∧ f i = true := by
  intro n
  induction n with
  | zero => intro h; exact absurd h (by simp [cnt])
  | succ n ih =>
    intro h
    cases hf : f n with
    | true => exact ⟨n, Nat.lt_succ_self n, hf⟩
    | false =>
      simp only [cnt, hf] at h
      obtain ⟨i, a, b⟩ := ih (by simpa using h)
      exact ⟨i, by omega, b⟩
theorem cnt_2 {f : Nat → Bool} : ∀ n, 2 ≤ cnt f n → ∃ i j, i < j ∧ j < n ∧ f i = true ∧ f j = true := by
  intro n
  induction n with
  | zero => intro h; exact absurd h (by simp [cnt])
  | succ n ih =>
    intro h
    cases hf : f n with
    | true =>
      simp only [cnt, hf] at h
      obtain ⟨i, a, b⟩ := cnt_1 (f := f) n (by simpa using h)
      exact ⟨i, n, a, Nat.lt_succ_self n, b, hf⟩
    | false =>
      simp only [cnt, hf] at h
      obtain ⟨i, j, a, b, d⟩ := ih (by simpa using h)
      exact ⟨i, j, a, by omega, d⟩
section SA4
variable {h h' h1 m m' m1 : Hp} {n nw k B c : Nat} {T : List Int32} {lang us : Int32} {s : Nat → Int32}
/-- a cell whose needs are FRESH has no name from several -/
theorem nsv_ok (J : JOK h n nw) (W : MW h m n nw) (hc : c < n) (h5 : ¬ twh h n nw 26 c = true) (hT : ∀ j, j < n → ndc h n nw c j = true → ¬ twh h n nw 26 j = true) (hus : h (64 * c + 55) 7 = us) : nsv h n nw c us := by
  intro x hx hu
  by_cases g : ∃ k, gch h n c x = some k
  · exact Or.inl g
  refine Or.inr (fun h2 => ?_)
  have h16 := J.1
  have gn : gch h n c x = none := by
    cases hg : gch h n c x with
    | none => rfl
    | some k => exact absurd ⟨k, hg⟩ g
  obtain ⟨i, j, a, b, d1, d2⟩ := cnt_2 32 h2
  have cell : ∀ i, dfh h n nw x i = true → i < n ∨ (16 ≤ i ∧ i < 16 + nw ∧ h 5 (i - 16) = Int32.ofNat x) := by
    intro i hi
    unfold dfh at hi
    simp only [Bool.or_eq_true, Bool.and_eq_true, decide_eq_true_eq] at hi
    rcases hi with h | h
    · exact Or.inl h.1
    · exact Or.inr h
  have hd : ∃ d, d < n ∧ dfh h n nw x d = true := by
    rcases cell i d1 with h1 | ⟨h1, h2, h3⟩
    · exact ⟨i, h1, d1⟩
    · rcases cell j d2 with h4 | ⟨h4, h5, h6⟩
      · exact ⟨j, h4, d2⟩
      · have := W.2.2.2.2.2.2 (i - 16) (j - 16) (by omega) (by omega) (h3.trans h6.symm)
        omega
  obtain ⟨d, e1, e2⟩ := hd
  have htw : twh h n nw 26 d = true := by
    unfold twh
    refine (anyb_iff 26).mpr ⟨x, hx, ?_⟩
    rw [e2]
    simp only [Bool.and_eq_true, decide_eq_true_eq, Bool.true_and]
    exact ⟨h2, by omega⟩
  by_cases e : d = c
  · subst e; exact h5 htw
  · refine hT d e1 ?_ htw
    unfold ndc ndh
    simp only [Bool.and_eq_true, decide_eq_true_eq]
    refine ⟨(anyb_iff 26).mpr ⟨x, hx, ?_⟩, by omega⟩
    rw [hus, hu, Bool.true_and]
    have gn' : lst (fun k => chh h n x k && (!chh h n x c || decide (k < c))) 16 = none := gn
    unfold gvb
    rw [gn']
    simp only [Bool.and_eq_true, decide_eq_true_eq]
    exact ⟨e2, e⟩
theorem st0 {nd : Nat → Nat → Bool} {tw : Nat → Bool} {ow : Nat → Int32} (hs : isSt n nd tw ow s) (hc : c < n) (h0 : s c = 0) : ow c = 0 ∧ ¬ tw c = true ∧ ¬ cl nd n c c = true := by
  have e := hs c hc
  rw [h0] at e
  unfold stp at e
  by_cases h1 : tw c = true
  · rw [if_pos h1] at e; exact absurd e (by decide)
  rw [if_neg h1] at e
  by_cases h2 : cl nd n c c = true
  · rw [if_pos h2] at e; exact absurd e (by decide)
  rw [if_neg h2] at e
  split at e
  · exact absurd e (by decide)
  split at e
  · exact absurd e (by decide)
  · exact ⟨e.symm, h1, h2⟩
theorem own0 (h0 : own h n nw c = 0) : ¬ h (64 * c + 52) 15 = 0 ∧ h (64 * c + 52) 11 = 0 := by
  unfold own at h0
  split at h0
  · exact absurd h0 (by decide)
  split at h0
  · rename_i h2
    split at h0
    · rename_i h3
      refine ⟨fun e => ?_, h3⟩
      unfold asT at h2
      rw [e] at h2
      exact absurd h2 (by simp)
    · exact absurd h0 (by decide)
  · exact absurd h0 (by decide)
/-- what the cells that are FRESH gave -/
theorem fr_gave (H : CP h m n nw k B) (hs : isSt n (ndc h n nw) (twh h n nw 26) (own h n nw) s) : ∃ V : Nat → Nat → Option VL, ∀ j, j < n → s j = 0 → (∀ x, x < 27 → cv h (64 * j + 59) x (V j x)) ∧ (∀ x, x < 26 → mv m 1093 (234 * j + 9 * x) (V j x)) ∧ mv m 1094 (9 * j) (V j 26) := by
  have : ∀ j, ∃ v : Nat → Option VL, j < n → s j = 0 → (∀ x, x < 27 → cv h (64 * j + 59) x (v x)) ∧ (∀ x, x < 26 → mv m 1093 (234 * j + 9 * x) (v x)) ∧ mv m 1094 (9 * j) (v 26) := by
    intro j
    by_cases hj : j < n ∧ s j = 0
    · obtain ⟨o1, o2⟩ := own0 (st0 hs hj.1 hj.2).1
      obtain ⟨T, C, O⟩ := H.2.2.2.2.2.2.2.2.2.1 j hj.1
      obtain ⟨-, V, g1, g2, g3, g4⟩ := (O o1).1 o2
      exact ⟨V, fun _ _ => ⟨g1, g2, g3⟩⟩
    · exact ⟨fun _ => none, fun a b => absurd ⟨a, b⟩ hj⟩
  exact Classical.axiomOfChoice this
/-- the class gathers what the model fetches -/
theorem gath (H : CP h m n nw k B) (hs : isSt n (ndc h n nw) (twh h n nw 26) (own h n nw) s) (hc : c < n) (h5 : ¬ twh h n nw 26 c = true) (hrd : ∀ j, j < n → ndc h n nw c j = true → s j = 0) (hus : h (64 * c + 55) 7 = us) : ∃ e h1, p_141 h (Int32.ofNat c) 0 = some h1 ∧ (∀ i, i < 27 → cv h1 45 i (e i)) ∧ w_fr (fun q => q = 46 ∨ q = 47) h h1 ∧ FHx m c us e ∧ (∀ x, x < 27 → ¬ (x < 26 ∧ bt us x = true) → e x = none) ∧ ∀ x, (e x).isSome = true → ∃ j, gvr h n nw c x = some j := by
  obtain ⟨V, hV⟩ := fr_gave H hs
  obtain ⟨⟨b1, b2⟩, J, W, RR, S, Q, G, Y, P, CC, V1, V2⟩ := H
  have h16 := J.1
  have nsv1 := nsv_ok J W hc h5 (fun j hj hd => (st0 hs hj (hrd j hj hd)).2.1) hus
  have giv : ∀ x, x < 26 → bt us x = true → ∀ j, j < 16 → gvr h n nw c x = some j → j < n ∧ s j = 0 := by
    intro x hx hu j hj hg
    have hb := (lst_lt 20 hg).2
    have hd : ndc h n nw c j = true := by
      unfold ndc ndh
      simp only [Bool.and_eq_true, decide_eq_true_eq]
      exact ⟨(anyb_iff 26).mpr ⟨x, hx, by rw [hus, hu, Bool.true_and]; exact hb⟩, hj⟩
    have := ndc_lt h16 hd
    exact ⟨this, hrd j this hd⟩
  obtain ⟨h1, p1, v1, f1⟩ := c_141 (h := h) (n := n) (nw := nw) (c := c) (V := V) (us := us) (x2 := 0) (o := 59) h16 J.2.2.2.1 J.2.1 J.2.2.1 J.2.2.2.2.2.1 hc hus (Or.inl ⟨rfl, rfl⟩) nsv1 (fun x hx hu j hj hg => by
    obtain ⟨a, b⟩ := giv x hx hu j hj hg
    exact (hV j a b).1 x (by omega))
  exact ⟨egt V h n nw c us, h1, p1, v1, f1, FHx_of W hc nsv1 RR.1 (fun x hx hu j hj hg => by
    obtain ⟨a, b⟩ := giv x hx hu j hj hg
    exact (hV j a b).2.1 x hx), fun x hx hn => by unfold egt; rw [if_neg hn], fun x hsome => by
    unfold egt at hsome
    split at hsome
    · cases hg : gvr h n nw c x with
      | none => rw [hg] at hsome; cases hsome
      | some j => exact ⟨j, rfl⟩
    · cases hsome⟩
theorem tag3 : ∀ c, c < 16 → ∀ i, i < 5 → w_tag (64 * c + (if i < 4 then 80 + 9 * i else 69)) = 3 := by decide +kernel
theorem l_cp1 {r1 o : Nat} {f : Int32 → Hp → Option ((Int32 × Hp) ⊕ Hp)} (hne : r1 ≠ 1093) (hf : ∀ i g, i < 234 → f (Int32.ofNat i) g = some (.inl (Int32.ofNat (i + 1), w_up g 1093 (234 * c + i) (g r1 (234 * o + i))))) (hf2 : ∀ g, f (Int32.ofNat 234) g = some (.inr g)) : w_lp (fun (s : Int32 × Hp) => f s.1 s.2) w_N (0, m) = some (w_fi m 1093 (234 * c) 234 (fun i => m r1 (234 * o + i))) := m_cp234 hne hf hf2
/-- the model's steps of a found run -/
theorem m_rec (hc : c < 16) {i : Nat} (hi : i < 64) : q_224_10 m (Int32.ofNat c) (Int32.ofNat i) = (recT c 1105 (9 * i) true (w_fi m 1093 (234 * c) 234 (fun j => m 1104 (234 * i + j)))).bind (fun v => some (1, v)) := by
  have p1 : w_lp (fun (s : Int32 × Hp) => l_224_22 (Int32.ofNat c) (Int32.ofNat i) s.1 s.2) w_N (0, m) = some (w_fi m 1093 (234 * c) 234 (fun j => m 1104 (234 * i + j))) := by
    refine l_cp1 (r1 := 1104) (f := fun j g => l_224_22 (Int32.ofNat c) (Int32.ofNat i) j g) (by decide) (fun j g hj => ?_) (fun g => ?_)
    · have hlt : Int32.ofNat j < 234 := (u_ltL (by omega) (by decide)).mpr hj
      have ea : (234 : Int32) * Int32.ofNat c + Int32.ofNat j = Int32.ofNat (234 * c + j) := by rw [show (234 : Int32) = Int32.ofNat 234 from rfl, u_mul, u_add]
      have eb : (234 : Int32) * Int32.ofNat i + Int32.ofNat j = Int32.ofNat (234 * i + j) := by rw [show (234 : Int32) = Int32.ofNat 234 from rfl, u_mul, u_add]
      simp (disch := omega) only [l_224_22, hlt, if_true, ea, eb, u_ix, u_cl, w_gd, w_let, u_S]
    · have hlt : ¬ Int32.ofNat 234 < 234 := by decide
      simp only [l_224_22, hlt, if_false]
  have hne : ¬ Int32.ofNat i = -1 := by
    intro e
    have := congrArg Int32.toInt e
    rw [u_toInt (by omega)] at this
    have h1 : (-1 : Int32).toInt = -1 := by decide
    omega
  unfold q_224_10 recT
  rw [if_neg hne, p1]
  simp only [Option.bind_some]
  rw [show (9 : Int32) * Int32.ofNat i = Int32.ofNat (9 * i) from u_Lmul i 9, show (9 : Int32) * Int32.ofNat c = Int32.ofNat (9 * c) from u_Lmul c 9]
  generalize p_193 (w_fi m 1093 (234 * c) 234 (fun j => m 1104 (234 * i + j))) 1105 (Int32.ofNat (9 * i)) 1094 (Int32.ofNat (9 * c)) = x
  cases x with
  | none => rfl
  | some v =>
    simp only [Option.bind_some]
    rw [u_ix hc (by decide), u_cl (by omega)]
    simp only [w_gd, w_let, if_true]
theorem m_rec1 (hc : c < 16) : ((w_lp (fun (s : Int32 × Hp) => l_230_19 (Int32.ofNat c) s.1 s.2) w_N (0, m)).bind fun ez9 =>
      (p_193 ez9 1111 (9 * Int32.ofNat c) 1094 (9 * Int32.ofNat c)).bind fun vz10 =>
      w_gd (w_ix (Int32.ofNat c) 16) <|
      w_let (w_up vz10 1092 (Int32.ofNat c).toNatClampNeg 0) fun hz12 =>
      (p_217 hz12 (Int32.ofNat c) 1).bind fun vz13 =>
      some ((0 : Int32), vz13)) = (recT c 1111 (9 * c) false (w_fi m 1093 (234 * c) 234 (fun j => m 1110 (234 * c + j)))).bind (fun v => some ((0 : Int32), v)) := by
  have p1 : w_lp (fun (s : Int32 × Hp) => l_230_19 (Int32.ofNat c) s.1 s.2) w_N (0, m) = some (w_fi m 1093 (234 * c) 234 (fun j => m 1110 (234 * c + j))) := by
    refine l_cp1 (r1 := 1110) (f := fun j g => l_230_19 (Int32.ofNat c) j g) (by decide) (fun j g hj => ?_) (fun g => ?_)
    · have hlt : Int32.ofNat j < 234 := (u_ltL (by omega) (by decide)).mpr hj
      have ea : (234 : Int32) * Int32.ofNat c + Int32.ofNat j = Int32.ofNat (234 * c + j) := by rw [show (234 : Int32) = Int32.ofNat 234 from rfl, u_mul, u_add]
      simp (disch := omega) only [l_230_19, hlt, if_true, ea, u_ix, u_cl, w_gd, w_let, u_S]
    · have hlt : ¬ Int32.ofNat 234 < 234 := by decide
      simp only [l_230_19, hlt, if_false]
  rw [p1]
  unfold recT
  simp only [Option.bind_some]
  rw [show (9 : Int32) * Int32.ofNat c = Int32.ofNat (9 * c) from u_Lmul c 9]
  generalize p_193 (w_fi m 1093 (234 * c) 234 (fun j => m 1110 (234 * c + j))) 1111 (Int32.ofNat (9 * c)) 1094 (Int32.ofNat (9 * c)) = x
  cases x with
  | none => rfl
  | some v =>
    simp only [Option.bind_some]
    rw [u_ix hc (by decide), u_cl (by omega)]
    simp only [w_gd, w_let]
    rw [if_neg (by decide)]
theorem FHx_132 {e : Nat → Option VL} (hX : FHx m c us e) (fm : w_fr (fun q => q = 1132) m m1) : FHx m1 c us e := by
  have em : ∀ q, q ≠ 1132 → m1 q = m q := fun q hq => fm q hq
  intro g how hhow a1 a2 a3 a4 a5 a6 a7 a8 a9
  exact hX g how hhow (by rw [a1, em 1076 (by decide)]) (by rw [a2, em 1076 (by decide)]) (by rw [a3, em 1083 (by decide)]) (by rw [a4, em 1084 (by decide)]) (by rw [a5, em 1085 (by decide)]) (by rw [a6, em 1112 (by decide)]) (by rw [a7, em 1115 (by decide)]) (fun b hb => by rw [a8 b hb, em 1093 (by decide)]) a9
theorem ofB_t {b : Bool} : ¬ ofB b = 0 ↔ b = true := by cases b <;> decide
/-- a cell is run, or found again: the same answer, and all is coupled again -/
theorem does0 (H : CP h m n nw k B) (L : LK h m n nw) (hs : isSt n (ndc h n nw) (twh h n nw 26) (own h n nw) s) (hc : c < n) (h5 : ¬ twh h n nw 26 c = true) (hrd : ∀ j, j < n → ndc h n nw c j = true → s j = 0) (hB : k + 1 ≤ B) : ∃ r h' m', p_139 h (Int32.ofNat c) 0 = some (r, h') ∧ p_224 m (Int32.ofNat c) = some (r, m') ∧ CP h' m' n nw (k + 1) B ∧ ∃ T lang, ran h m h' m' c k nw T lang := by
  have H' := H
  obtain ⟨⟨b1, b2⟩, J, W, RR, S, Q, G, Y, P, CC, V1, V2⟩ := H'
  have h16 := J.1
  have c16 : c < 16 := by omega
  obtain ⟨T, C, O⟩ := CC c hc
  obtain ⟨⟨pc, po, F, PP, -⟩, ⟨D, LL, d1, d2⟩, -⟩ := P c c16
  have hus : h (64 * c + 55) 7 = (rdA T (m 1081 c)).2.2.2.2.2.2.2 := C.2.2.2.1.2.2.2.2.2.2
  obtain ⟨e, h1, p1, v1, f1, hX, he0, hgv⟩ := gath H hs hc h5 hrd hus
  have f1' : ∀ z, z ≠ 46 → z ≠ 47 → h1 z = h z := fun z a b => f1 z (by omega)
  have C1 : cel h1 m c T (m 1081 c) := cel_rd C (fun z a b => f1' z (by omega) (by omega)) (by rw [f1' _ (by omega) (by omega)]) (fun _ _ => rfl)
  have P1 : PAST h1 m c (m 1081 c) pc po F := PAST_mv PP (by rw [f1' _ (by omega) (by omega)]) (by rw [f1' _ (by omega) (by omega)]) (fun z a b => f1' z (by omega) (by omega)) rfl (fun _ _ _ => ⟨fun _ _ => rfl, rfl, fun _ _ => rfl, fun _ _ => rfl, fun _ _ => rfl⟩)
  have D1 : drc h1 (64 * c + 65) D LL := drc_fr d1 (fun z a b => f1' z (by omega) (by omega))
  have w1 : h1 4 7 = Int32.ofNat nw := by rw [f1' 4 (by decide) (by decide)]; exact J.2.2.1
  have k1 : h1 0 14 = Int32.ofNat k := by rw [f1' 0 (by decide) (by decide)]; exact S.2.2.2.2.2.1
  have ch1 : h1 40 0 = m 1076 31 := by rw [f1' 40 (by decide) (by decide)]; exact S.1
  have tm1 : h1 40 1 = m 1076 32 := by rw [f1' 40 (by decide) (by decide)]; exact S.2.1
  have e139 : ∀ v, p_2 h1 (64 * c + 52) 45 = some v → p_139 h (Int32.ofNat c) 0 = q_139_19 h1 (Int32.ofNat c) 0 (64 * c + 52) v := by
    intro v hv
    unfold p_139
    rw [u_ix c16 (by decide), u_cl (by omega), p1]
    simp only [w_gd, Option.bind_some, if_true]
    rw [hv]
    rfl
  have fin : ∀ h' m', (h' (64 * c + 52) 11 = 0 → ∀ x, x < 26 → bt (rdA T (m 1081 c)).2.2.2.2.2.2.2 x = true → (e x).isSome = true) → ran h m h' m' c k nw T (m 1081 c) → CP h' m' n nw (k + 1) B ∧ ∃ T lang, ran h m h' m' c k nw T lang := fun h' m' hs R => ⟨CP_ran H L hc rfl C hB (fun h0 x hx hu => hgv x (hs h0 x hx (by rw [← hus]; exact hu))) R, _, _, R⟩
  cases ho : opn T T.length with
  | true =>
    have q1 := (c_2 P1 c16 C1.2.2.1 v1).1 ho
    obtain ⟨h', m', x1, x2, x3, x4, x5⟩ := run_a (h := h1) (m := m) (T := T) (D := D) (L := LL) (c := c) (k := k) (nw := nw) (lang := m 1081 c) (e := e) (F := F) (how := 0) (Or.inl rfl) c16 J.2.2.2.1 w1 W.2.2.2.1 C1 v1 hX he0 P1 (fun hh => by rw [ho] at hh; cases hh) D1 d2 V1 ch1 tm1 k1 S.2.2.2.2.2.2.1
    have R := ran_pre x3 f1 (w_fr_refl _ _)
    refine ⟨0, h', m', (e139 0 q1).trans x1, ?_, fin h' m' x5 R⟩
    unfold p_224
    rw [u_ix c16 (by decide), u_cl (by omega), C.2.2.2.2.2.2.2.1, ho]
    simp only [w_gd]
    rw [if_neg (by decide)]
    unfold q_224_10
    rw [if_pos rfl, x2]
    rfl
  | false =>
    obtain ⟨fe, hF, hfe⟩ := hX m 0 (by decide) rfl rfl rfl rfl rfl rfl rfl (fun _ _ => rfl) V1
    obtain ⟨m1, fm, hm⟩ := m_220 P1 c16 C1.2.2.2.2.1 C1.2.2.2.2.2.2.1.2.2 rfl hF S.2.2.1 hfe he0
    have hc2 := (c_2 P1 c16 C1.2.2.1 v1).2 ho
    have m224 : p_224 m (Int32.ofNat c) = (p_220 m (Int32.ofNat c)).bind fun vz3 => q_224_10 vz3.2 (Int32.ofNat c) vz3.1 := by
      unfold p_224
      rw [u_ix c16 (by decide), u_cl (by omega), C.2.2.2.2.2.2.2.1, ho]
      simp only [w_gd]
      rw [if_pos (show ofB false = 0 from rfl)]
    have fmq : ∀ q, q ≠ 1132 → m1 q = m q := fun q hq => fm q hq
    rcases hc2 with ⟨st, s1, s2, s3⟩ | ⟨s1, s2⟩
    · rcases hm with ⟨i, i1, i2, i3⟩ | ⟨i1, -⟩
      rotate_left
      · exact absurd s2 (i1 st s1)
      have hsg := sgm_lt P1.1 P1.2.1 P1.2.2.1 i1
      have est := mat_uni P1 s1 hsg s2 i2
      have K := P1.2.2.2.2.2.2.1 i i1
      rw [← est] at K
      have pc4 := P1.1
      have ht : w_tag (64 * c + 80 + 9 * st) = 3 := by
        have := tag3 c c16 st (by omega)
        rw [if_pos (by omega)] at this
        rw [show 64 * c + 80 + 9 * st = 64 * c + (80 + 9 * st) by omega]; exact this
      have l1105 : w_len 1105 = 576 := by decide +kernel
      obtain ⟨K1, K2, K3, K4, K5, K6, K7, K8, K9, K10⟩ := K
      have C11 : cel h1 m1 c T (m 1081 c) := cel_rd C1 (fun _ _ _ => rfl) rfl (fun q hq => fmq q (by omega))
      have P11 : PAST h1 m1 c (m 1081 c) pc po F := PAST_mv P1 rfl rfl (fun _ _ _ => rfl) (by rw [fmq 1100 (by decide)]) (fun _ _ _ => ⟨fun _ _ => by rw [fmq 1101 (by decide)], by rw [fmq 1102 (by decide)], fun _ _ => by rw [fmq 1103 (by decide)], fun _ _ => by rw [fmq 1104 (by decide)], fun _ _ => by rw [fmq 1105 (by decide)]⟩)
      obtain ⟨h', m', x1, x2, x3, x4⟩ := run_rec (h := h1) (m := m1) (T := T) (D := D) (L := LL) (c := c) (k := k) (nw := nw) (lang := m 1081 c) (W := (F st).2.2) (F := F) (x2 := 0) (inc := true) (q := 64 * c + 80 + 9 * st) (r4 := 1104) (r5 := 1105) (o := 4 * c + i) (Or.inl ⟨rfl, rfl⟩) c16 J.2.2.2.1 w1 (by rw [fmq 1076 (by decide)]; exact W.2.2.2.1) C11 (by omega) ht K7 (Or.inl rfl) (Or.inl rfl) (by rw [l1105]; omega) (fun x hx => mv_fr (K8 x hx) (fun _ _ _ => by rw [fmq 1104 (by decide)])) (mv_fr K9 (fun _ _ _ => by rw [fmq 1105 (by decide)])) (fun x hx hb => K10 x hx (by rw [s2.1]; exact hb)) P11 D1 (dr1_fr d2 (fun _ _ => by rw [fmq 1097 (by decide)]) (by rw [fmq 1098 (by decide)]) (by rw [fmq 1096 (by decide)]) (fun _ _ => by rw [fmq 1095 (by decide)])) (fun j x hj hx => by
        obtain ⟨v, hv⟩ := V1 j x hj hx
        exact ⟨v, mv_fr hv (fun _ _ _ => by rw [fmq 1093 (by decide)])⟩) (by rw [fmq 1076 (by decide)]; exact ch1) (by rw [fmq 1076 (by decide)]; exact S.2.2.1) k1 (by rw [fmq 1076 (by decide)]; exact S.2.2.2.2.2.2.1)
      have R := ran_pre x3 f1 fm
      refine ⟨1, h', m', (e139 _ s3).trans x1, ?_, fin h' m' (fun _ x hx hu => by rw [← s2.2 x (by omega)]; exact (K5 x hx (by rw [s2.1]; exact hu)).2) R⟩
      rw [m224, i3]
      simp only [Option.bind_some]
      rw [m_rec c16 (by omega), x2]
      rfl
    · rcases hm with ⟨i, i1, i2, i3⟩ | ⟨-, i3⟩
      · exact absurd i2 (s1 _ (sgm_lt P1.1 P1.2.1 P1.2.2.1 i1))
      have C11 : cel h1 m1 c T (m 1081 c) := cel_rd C1 (fun _ _ _ => rfl) rfl (fun q hq => fmq q (by omega))
      have P11 : PAST h1 m1 c (m 1081 c) pc po F := PAST_mv P1 rfl rfl (fun _ _ _ => rfl) (by rw [fmq 1100 (by decide)]) (fun _ _ _ => ⟨fun _ _ => by rw [fmq 1101 (by decide)], by rw [fmq 1102 (by decide)], fun _ _ => by rw [fmq 1103 (by decide)], fun _ _ => by rw [fmq 1104 (by decide)], fun _ _ => by rw [fmq 1105 (by decide)]⟩)
      obtain ⟨h', m', x1, x2, x3, x4, x5⟩ := run_a (h := h1) (m := m1) (T := T) (D := D) (L := LL) (c := c) (k := k) (nw := nw) (lang := m 1081 c) (e := e) (F := F) (how := 0) (Or.inl rfl) c16 J.2.2.2.1 w1 (by rw [fmq 1076 (by decide)]; exact W.2.2.2.1) C11 v1 (FHx_132 hX fm) he0 P11 (fun _ => s1) D1 (dr1_fr d2 (fun _ _ => by rw [fmq 1097 (by decide)]) (by rw [fmq 1098 (by decide)]) (by rw [fmq 1096 (by decide)]) (fun _ _ => by rw [fmq 1095 (by decide)])) (fun j x hj hx => by
        obtain ⟨v, hv⟩ := V1 j x hj hx
        exact ⟨v, mv_fr hv (fun _ _ _ => by rw [fmq 1093 (by decide)])⟩) (by rw [fmq 1076 (by decide)]; exact ch1) (by rw [fmq 1076 (by decide)]; exact tm1) k1 (by rw [fmq 1076 (by decide)]; exact S.2.2.2.2.2.2.1)
      have R := ran_pre x3 f1 fm
      refine ⟨0, h', m', (e139 _ s2).trans x1, ?_, fin h' m' x5 R⟩
      rw [m224, i3]
      simp only [Option.bind_some]
      unfold q_224_10
      rw [if_pos rfl, x2]
      rfl
end SA4
