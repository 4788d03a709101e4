/-! ===== a cell is reckoned: the model ===== -/
/-- fetching for the cell c in the way how gives fe, where nothing of it changed -/
def FH (c : Nat) (how : Int32) (fe : Nat → Option VL) (m : Hp) : Prop := ∀ g : Hp, g 1076 2 = m 1076 2 → g 1076 48 = m 1076 48 → g 1076 29 = how → g 1083 = m 1083 → g 1084 = m 1084 → g 1085 = m 1085 → g 1112 = m 1112 → g 1115 = m 1115 → g 1093 = m 1093 → g 1123 = m 1123 → ∀ i, i < 26 → ∃ g', p_194 g (Int32.ofNat c) (Int32.ofNat (97 + i)) = some (ofB (fe i).isSome, g') ∧ mv g' 1132 0 (fe i) ∧ w_fr (fun q => q = 1132) g g'
/-- the answers of the last run of the cell c: L, for the text D -/
def dr1 (m : Hp) (c : Nat) (D L : List Int32) : Prop := D.length ≤ 40 ∧ tm m 1097 (40 * c) D ∧ m 1098 c = Int32.ofNat D.length ∧ m 1096 c = Int32.ofNat L.length ∧ L.length ≤ 40 ∧ tm m 1095 (40 * c) L
def tld (how : Int32) (D T L : List Int32) : List Int32 := if ¬ how = 0 ∧ D = T then L else []
section S9m
variable {T : List Int32} {c q4 : Nat} {p : DP} {e fe : Nat → Option VL} {lang : Int32} {m m' : Hp}
theorem rst_kn (hT : T.length ≤ 40) {s : RS} (hp : s.1 ≤ T.length) (h : (rst T s).1 = true) (hk : ∀ j, j < 32 → bt (s.2.2.2.2.1 ||| s.2.2.2.2.2.1) j = true → bt s.2.2.2.1 j = true) : ∀ j, j < 32 → bt ((rst T s).2.2.2.2.2.1 ||| (rst T s).2.2.2.2.2.2.1) j = true → bt (rst T s).2.2.2.2.1 j = true := by
  obtain ⟨p1, s1, q1, q2, q3, q4, q5, q6, q7, q8, q9, qA, qB, qC⟩ := rst_US hT hp h
  intro j hj
  have k0 := hk j hj
  rw [bt_or] at k0
  by_cases c1 : sgn T s.1 = 61
  · rw [qA c1]
    show bt ((s.2.2.2.2.1 ||| (1 <<< ((cat T s.1 - 97) &&& 31))) ||| s.2.2.2.2.2.1) j = true → bt (s.2.2.2.1 ||| (1 <<< ((cat T s.1 - 97) &&& 31))) j = true
    rw [bt_or, bt_or, bt_or]
    cases h1 : bt s.2.2.2.2.1 j <;> cases h2 : bt s.2.2.2.2.2.1 j <;> cases h3 : bt (1 <<< ((cat T s.1 - 97) &&& 31)) j <;> simp_all
  by_cases c2 : sgn T s.1 = 33
  · rw [qB c2]
    by_cases hv : v_126 s.2.2.2.2.1 (cat T s.1 - 97) = 0
    · rw [if_pos hv]
      show bt (s.2.2.2.2.1 ||| (s.2.2.2.2.2.1 ||| (1 <<< ((cat T s.1 - 97) &&& 31)))) j = true → bt (s.2.2.2.1 ||| (1 <<< ((cat T s.1 - 97) &&& 31))) j = true
      rw [bt_or, bt_or, bt_or]
      cases h1 : bt s.2.2.2.2.1 j <;> cases h2 : bt s.2.2.2.2.2.1 j <;> cases h3 : bt (1 <<< ((cat T s.1 - 97) &&& 31)) j <;> simp_all
    · rw [if_neg hv]
      show bt (s.2.2.2.2.1 ||| s.2.2.2.2.2.1) j = true → bt (s.2.2.2.1 ||| (1 <<< ((cat T s.1 - 97) &&& 31))) j = true
      rw [bt_or, bt_or]
      intro h; rw [k0 h]; rfl
  · rw [qC c1 c2]
    show bt (s.2.2.2.2.1 ||| s.2.2.2.2.2.1) j = true → bt s.2.2.2.1 j = true
    rw [bt_or]; exact k0
theorem rss_kn (hT : T.length ≤ 40) : ∀ (f : Nat) (s : RS), s.1 ≤ T.length → (rss T f s).1 = true → (∀ j, j < 32 → bt (s.2.2.2.2.1 ||| s.2.2.2.2.2.1) j = true → bt s.2.2.2.1 j = true) → ∀ j, j < 32 → bt ((rss T f s).2.2.2.2.2.1 ||| (rss T f s).2.2.2.2.2.2.1) j = true → bt (rss T f s).2.2.2.2.1 j = true := by
  intro f
  induction f with
  | zero => intro s _ h; cases h
  | succ f ih =>
    intro s hp h hk
    simp only [rss] at h ⊢
    by_cases h1 : (rst T s).1 = true
    · rw [if_pos h1] at h ⊢
      have g := rst_kn hT hp h1 hk
      by_cases h2 : cat T (rst T s).2.1 = 59
      · rw [if_pos h2] at h ⊢
        exact ih (ra (rst T s).2) (cat_eq h2 (by decide)) h g
      · rw [if_neg h2]
        exact g
    · rw [if_neg h1] at h; cases h
theorem CLS_df : ∀ (C : List ST) (p : Nat), CLS T C p → (p = 0 ∨ cat T (p - 1) = 59) → ∀ a ∈ C, ∃ h, h < 26 ∧ a.1 = Int32.ofNat h ∧ dlt T 0 T.length h = true := by
  intro C
  induction C with
  | nil => intro p _ _ a ha; cases ha
  | cons b C ih =>
    intro p h hp a ha
    obtain ⟨r, l, h1, h2, h3, h4, h5, h6, h7, h8, h9, h10⟩ := h
    rcases List.mem_cons.mp ha with rfl | ha
    · refine ⟨l, h3, h5, dlt_iff.mpr ⟨p, Nat.zero_le _, by omega, ?_⟩⟩
      unfold dl lb
      rw [h4, isL_nat h3]
      simp [hp]
    · by_cases hr : r = T.length
      · subst hr
        have := CLS_end h10
        subst this; cases ha
      · have h59 : cat T r = 59 := h9.elim (fun h => absurd h hr) id
        exact ih (r + 1) h10 (Or.inr h59) a ha
/-- where reckoning of a language begins -/
def BG (T : List Int32) (lang : Int32) (c q4 : Nat) (p : DP) (e fe : Nat → Option VL) (g : Hp) (d : DR) : Prop := c < 16 ∧ SB T c q4 p e fe (rdA T lang).2.2.2.2.2.2.2 g 0 0 d ∧ g 1083 c = (rdA T lang).2.2.2.2.2.1
/-- what it leaves -/
def AD (T : List Int32) (lang : Int32) (c q4 : Nat) (p : DP) (g m1 : Hp) (r : Int32 × Int32 × PM) : Prop := evg c q4 g m1 ∧ dm m1 c p r.2.2.2.2 ∧ (r.1 = 0 → m1 1076 75 = 0 ∧ (∀ j, j < 26 → bt ((rdA T lang).2.2.2.2.2.1 ||| (rdA T lang).2.2.2.2.2.2.1) j = true → mv m1 1131 (9 * j) (r.2.2.1 j)) ∧ mv m1 q4 (9 * c) (r.2.2.1 26)) ∧ (¬ r.1 = 0 → m1 1076 75 = r.1 ∧ m1 1076 76 = r.2.1)
theorem m_l0 {d : DR} (hq : qres q4) (hT : T.length ≤ 40) (hF : rdF T 0 = -1) (B : BG T 0 c q4 p e fe m d) (hd : d.1 = 0) : ∃ r, evl T 0 p e d = some r ∧ ∃ m', p_208 m q4 = some m' ∧ AD T 0 c q4 p m m' r := by
  obtain ⟨hc, S, hdf⟩ := B
  obtain ⟨hA, hE⟩ := rdA_ok hT (Or.inl rfl) hF
  rw [rdA_0] at hA hE S hdf
  obtain ⟨C, x1, r, x2, x3, m1, a1, a2, a3, a4⟩ := m_208L (us := (rss T 40 (0, [], 0, 0, 0, 0, 0)).2.2.2.2.2.2.2) hq hc hT 40 (0, [], 0, 0, 0, 0, 0) m w_N e d (Nat.zero_le _) (Nat.le_refl _) hA (by omega) (fun j _ h => h) (fun j _ h => by have h' : bt 0 j = true := h; rw [bt_zero] at h'; cases h') S (by omega) (by decide)
  have x1' : (rss T 40 (0, [], 0, 0, 0, 0, 0)).2.2.1 = C := x1
  refine ⟨r, ?_, m1, a1, a2, ?_, fun h0 => ?_, fun h0 => ⟨(a4 h0).1, (a4 h0).2.1⟩⟩
  · unfold evl
    rw [if_neg (by decide), rdA_0, x1', yr_xr C _ (fun a ha => ?_)]
    · exact x2
    · have := rss_ok hT 40 (0, [], 0, 0, 0, 0, 0) (Nat.zero_le _) (Nat.le_refl _) (fun a ha => by cases ha) hA
      rw [x1'] at this
      exact this a ha
  · by_cases h0 : r.1 = 0
    · exact (a3 h0).2.2.2.2.2.2.2.1
    · exact (a4 h0).2.2
  · have S1 := a3 h0
    refine ⟨S1.2.2.2.2.2.1, fun j hj hb => ?_, S1.2.2.2.2.2.2.2.2⟩
    rw [rdA_0] at hb
    have hkn := rss_kn hT 40 (0, [], 0, 0, 0, 0, 0) (Nat.zero_le _) hA (fun j _ h => by have h' : bt (0 ||| 0) j = true := h; rw [bt_or, bt_zero] at h'; cases h') j (by omega) hb
    exact ((S1.2.2.2.1 j hj (Or.inr hkn)).1 hkn).2
theorem m_l1 {d : DR} (hq : qres q4) (hT : T.length ≤ 40) (hF : rdF T 1 = -1) (B : BG T 1 c q4 p e fe m d) : ∃ r, evl T 1 p e d = some r ∧ ∃ m', p_211 m q4 = some m' ∧ AD T 1 c q4 p m m' r := by
  obtain ⟨hc, S, hdf⟩ := B
  obtain ⟨hA, hE⟩ := rdA_ok hT (Or.inr (Or.inl rfl)) hF
  unfold AD
  rw [rdA_1] at hA S hdf ⊢
  obtain ⟨a, b, k, n, p5, p6, x, hQ, e1, -⟩ := rqu_F hA
  obtain ⟨-, -, z3, z4, z5⟩ := rqu_E hA
  have hQ' := hQ
  obtain ⟨k1, k2, k3, k4, k5, -, -, -, -, -, k11⟩ := hQ
  have ea : cat T 0 - 97 = Int32.ofNat a := by
    rw [k3]
    have := u_subL (a := 97 + a) (n := 97) (by omega)
    rw [show 97 + a - 97 = a by omega] at this
    exact this
  have eb : cat T 2 - 97 = Int32.ofNat b := by
    rw [k4]
    have := u_subL (a := 97 + b) (n := 97) (by omega)
    rw [show 97 + b - 97 = b by omega] at this
    exact this
  have hub : bt (rqu T (0, [], 0, 0, 0, 0, 0)).2.2.2.2.2.2.2 b = true := by rw [z5, eb, bt_one (by omega)]; simp
  obtain ⟨m1, a1, a2, a3, a4, a5⟩ := m_211 hq hc hQ' hub S
  cases he : e b with
  | none =>
    obtain ⟨b1, b2⟩ := a4 he
    refine ⟨(1, 0, e, [], d), ?_, m1, a1, a2, a3, fun h => absurd h (show ¬ (1 : Int32) = 0 by decide), fun _ => ⟨b1, b2⟩⟩
    unfold evl
    rw [if_neg (by decide), rdA_1, e1]
    exact yr_none k2 he
  | some v =>
    obtain ⟨b1, b2, b3⟩ := a5 v he
    refine ⟨(0, 0, eup (eup e a (some (qrs x ((itl v).filter (cmq k n))))) 26 (some (qrs x ((itl v).filter (cmq k n)))), [], d), ?_, m1, a1, a2, a3, fun _ => ⟨b1, fun j hj hb => ?_, ?_⟩, fun h => ?_⟩
    · unfold evl
      rw [if_neg (by decide), rdA_1, e1]
      exact yr_some k1 k2 (by rcases k5 with ⟨-, h⟩ | ⟨-, h⟩ | ⟨-, h⟩ <;> simp [h]) he k11
    · rw [z3, z4, bt_or, bt_zero, Bool.or_false, ea, bt_one (by omega)] at hb
      have : j = a := by simpa using hb
      subst this
      have e2 : eup (eup e j (some (qrs x ((itl v).filter (cmq k n))))) 26 (some (qrs x ((itl v).filter (cmq k n)))) j = some (qrs x ((itl v).filter (cmq k n))) := by
        unfold eup
        rw [if_neg (by omega), if_pos rfl]
      show mv m1 1131 (9 * j) (eup (eup e j (some (qrs x ((itl v).filter (cmq k n))))) 26 (some (qrs x ((itl v).filter (cmq k n)))) j)
      rw [e2]; exact b2
    · have e2 : eup (eup e a (some (qrs x ((itl v).filter (cmq k n))))) 26 (some (qrs x ((itl v).filter (cmq k n)))) 26 = some (qrs x ((itl v).filter (cmq k n))) := by
        unfold eup
        rw [if_pos rfl]
      show mv m1 q4 (9 * c) (eup (eup e a (some (qrs x ((itl v).filter (cmq k n))))) 26 (some (qrs x ((itl v).filter (cmq k n)))) 26)
      rw [e2]; exact b3
    · exact absurd rfl h
theorem m_l2 {d : DR} (hq : qres q4) (hT : T.length ≤ 40) (hF : rdF T 2 = -1) (B : BG T 2 c q4 p e fe m d) : ∃ r, evl T 2 p e d = some r ∧ ∃ m', p_213 m q4 = some m' ∧ AD T 2 c q4 p m m' r := by
  obtain ⟨hc, S, hdf⟩ := B
  obtain ⟨hA, hE⟩ := rdA_ok hT (Or.inr (Or.inr rfl)) hF
  unfold AD
  have hev : evl T 2 p e d = some (rul (rdA T 2).2.2.1 (rdA T 2).2.2.2.2.2.1 (rdA T 2).2.2.2.2.2.2.2 e d) := by unfold evl; rw [if_pos rfl]
  rw [hev]
  rw [rdA_2] at hA hE S hdf ⊢
  obtain ⟨C, x1, x2⟩ := rcl_C hT 40 0 (0, [], 0, 0, 0, 0, 0) (Nat.zero_le _) (Nat.le_refl _) hA (by omega)
  have x1' : (rcl T 40 0 (0, [], 0, 0, 0, 0, 0)).2.2.1 = C := x1
  obtain ⟨r1, r2, r3, r4, r5⟩ := rcl_E 40 0 (0, [], 0, 0, 0, 0, 0) hA (Or.inl rfl)
  rw [hE] at r4 r5
  have r3' : (rcl T 40 0 (0, [], 0, 0, 0, 0, 0)).2.2.2.2.2.2.1 = 0 := r3
  rw [x1', r3']
  have hdb : ∀ j, j < 32 → bt (rcl T 40 0 (0, [], 0, 0, 0, 0, 0)).2.2.2.2.2.1 j = dlt T 0 T.length j := fun j hj => by
    rw [r4 j hj]
    show (bt 0 j || dlt T 0 T.length j) = _
    rw [bt_zero, Bool.false_or]
  have hub : ∀ j, j < 32 → bt (rcl T 40 0 (0, [], 0, 0, 0, 0, 0)).2.2.2.2.2.2.2 j = (lbt T 0 T.length j && !bt (rcl T 40 0 (0, [], 0, 0, 0, 0, 0)).2.2.2.2.2.1 j) := fun j hj => by
    rw [r5 j hj]
    show ((bt 0 j || lbt T 0 T.length j) && _) = _
    rw [bt_zero, Bool.false_or]
  generalize (rcl T 40 0 (0, [], 0, 0, 0, 0, 0)).2.2.2.2.2.1 = df at *
  generalize (rcl T 40 0 (0, [], 0, 0, 0, 0, 0)).2.2.2.2.2.2.2 = us at *
  have hne : C ≠ [] := by
    intro h; subst h
    have x2' : 0 = T.length + 1 := x2
    omega
  have hd26 : ∀ j, 26 ≤ j → j < 32 → bt df j = false := by
    intro j h1 h2
    rw [hdb j h2]
    cases hl : dlt T 0 T.length j with
    | false => rfl
    | true =>
      obtain ⟨i, -, -, h3⟩ := dlt_iff.mp hl
      unfold dl at h3
      simp only [Bool.and_eq_true] at h3
      have := lb_26 h2 h3.1
      omega
  have RB0 : RB T c q4 fe df m := ⟨S.1, S.2.1, hc, S.2.2.2.2.2.2.2.1.2.1, hdf, S.2.2.2.2.2.1, S.2.2.2.2.2.2.1⟩
  obtain ⟨m1, a1, a2, a3, a4, a5⟩ := m_213 (p := p) (e := e) (us := us) (d := d) hq x2 hne (fun a ha => by
    obtain ⟨h, h1, h2, h3⟩ := CLS_df C 0 x2 (Or.inl rfl) a ha
    exact ⟨h, h1, h2, by rw [hdb h (by omega)]; exact h3⟩) hd26 hub (fun j hj hb => (S.2.2.2.1 j hj (Or.inl hb)).2 (by rw [bt_zero]; decide)) RB0 S.2.2.2.2.2.2.2.1
  have hd : (rul C df us e d).2.2.2.2 = d := by
    unfold rul
    cases C.find? (fun a => unt e us a.2.1) <;> rfl
  refine ⟨_, rfl, m1, a1, a2, by rw [hd]; exact a3, fun h0 => ?_, a5⟩
  obtain ⟨b1, b2, b3⟩ := a4 h0
  refine ⟨b1, fun j hj hb => b2 j hj ?_, b3⟩
  rw [bt_or, bt_zero, Bool.or_false] at hb
  exact hb
end S9m
