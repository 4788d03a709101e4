/-! ===== a cell is reckoned: the class ===== -/
/-- what reckoning a text gives: error, place, names, answers -/
def evl (T : List Int32) (lang : Int32) (p : DP) (e : Nat → Option VL) (d : DR) : Option (Int32 × Int32 × PM) :=
  if lang = 2 then some (rul (rdA T lang).2.2.1 (rdA T lang).2.2.2.2.2.1 (rdA T lang).2.2.2.2.2.2.2 e d) else yr p (rdA T lang).2.2.1 (e, [], d)
/-- what is handed over -/
def gvs (df ch : Int32) (e : Nat → Option VL) : Nat → Option VL := fun i => if i = 26 ∨ bt (df ||| ch) i = true then e i else none
section S9l
variable {T : List Int32} {h h' : Hp} {p : DP} {R : Nat} {e : Nat → Option VL} {lang : Int32}
theorem rdA_ok (hT : T.length ≤ 40) (hlang : lang = 0 ∨ lang = 1 ∨ lang = 2) (hF : rdF T lang = -1) : (rdA T lang).1 = true ∧ (rdA T lang).2.1 = T.length := by
  have H3 : ma T (fun q b => if q = 1076 then (if b = 66 then Int32.ofNat T.length else 0) else if q = 1127 then T.getD b 0 else 0) 0 := ⟨⟨hT, rfl, fun i hi => rfl⟩, rfl, Nat.zero_le _⟩
  have hB : (rdA T lang).2.1 ≤ T.length := by
    unfold rdA
    rcases hlang with rfl | rfl | rfl
    · rw [if_neg (by decide), if_neg (by decide)]
      exact (rss_scan hT 40 40 (0, [], 0, 0, 0, 0, 0) (Nat.zero_le _) (by decide) (by decide)).2
    · rw [if_pos rfl]
      obtain ⟨_, _, b, _⟩ := m_156 H3
      exact b.2.2
    · rw [if_neg (by decide), if_pos rfl]
      obtain ⟨_, _, b, _⟩ := m_157 H3
      exact b.2.2
  unfold rdF at hF
  by_cases c1 : (rdA T lang).1 = true
  · rw [if_pos c1] at hF
    by_cases c2 : (rdA T lang).2.1 < T.length
    · rw [if_pos c2] at hF
      exact absurd hF (u_m1 (by omega))
    · exact ⟨c1, by omega⟩
  · rw [if_neg c1] at hF
    exact absurd hF (u_m1 (by omega))
theorem rdA_0 : rdA T 0 = rss T 40 (0, [], 0, 0, 0, 0, 0) := by unfold rdA; rw [if_neg (by decide), if_neg (by decide)]
theorem rdA_1 : rdA T 1 = rqu T (0, [], 0, 0, 0, 0, 0) := by unfold rdA; rw [if_pos rfl]
theorem rdA_2 : rdA T 2 = rcl T 40 0 (0, [], 0, 0, 0, 0, 0) := by unfold rdA; rw [if_neg (by decide), if_pos rfl]
theorem okQ_qcd {a b : Nat} {k n x : Int32} (ha : a < 26) (hb : b < 26) (hk : k = 15 ∨ k = 16 ∨ k = 17) (hx : x = 115 ∨ x = 99 ∨ x = 109 ∨ x = 108) : ∀ s ∈ qcd a b k n x, okQ s.1 s.2.1 := by
  intro s hs
  have h1 : ∀ a, a < 26 → okQ 1 (Int32.ofNat a) := fun a ha => Or.inl (Or.inr (Or.inl ⟨Or.inl rfl, a, ha, rfl⟩))
  unfold qcd at hs
  simp only [List.mem_append, List.mem_cons, List.not_mem_nil, or_false] at hs
  rcases hs with ((rfl | rfl) | hs) | rfl | rfl | rfl
  · exact h1 b hb
  · exact Or.inr (Or.inl hk)
  · unfold qsc at hs
    rcases hx with rfl | rfl | rfl | rfl
    · rw [if_pos rfl] at hs
      have : s = (18, 0, 0) := by simpa using hs
      subst this; exact Or.inr (Or.inr (Or.inl rfl))
    · rw [if_neg (by decide), if_pos rfl] at hs
      have : s = (8, 0, 0) := by simpa using hs
      subst this; exact Or.inl (Or.inr (Or.inr (Or.inr (Or.inr (Or.inr (Or.inl rfl))))))
    · rw [if_neg (by decide), if_neg (by decide), if_pos rfl] at hs
      have : s = (19, 0, 0) := by simpa using hs
      subst this; exact Or.inr (Or.inr (Or.inr rfl))
    · rw [if_neg (by decide), if_neg (by decide), if_neg (by decide)] at hs
      cases hs
  · exact Or.inl (Or.inr (Or.inl ⟨Or.inr (Or.inr (Or.inl rfl)), a, ha, rfl⟩))
  · exact h1 a ha
  · exact Or.inl (Or.inr (Or.inr (Or.inr (Or.inr (Or.inr (Or.inr (Or.inr (Or.inr rfl))))))))
theorem getD_mem {C : List ST} {i : Nat} (hi : i < C.length) : C.getD i (0, 0, 0) ∈ C := by
  rw [List.getD_eq_getElem?_getD, List.getElem?_eq_getElem hi]
  exact List.getElem_mem hi
/-- the class reckons a cell -/
theorem c_evt {q1 q2 : Nat} {dr : DR} {r : Int32 × Int32 × PM} (hq : apt R q1) (hq2 : 40 < q2) (hT : T.length ≤ 40) (hlang : lang = 0 ∨ lang = 1 ∨ lang = 2) (hF : rdF T lang = -1) (H : cd h q1 (rdA T lang).2 lang) (he : ∀ i, i < 27 → cv h q2 i (e i)) (D : dcx h R p dr) (hr : evl T lang p e dr = some r) : ∃ h', p_16 h q1 q2 = some (r.1, h') ∧ (∀ i, i < 27 → cv h' 29 i (r.2.2.1 i)) ∧ dcx h' R p r.2.2.2.2 ∧ h' 28 3 = r.2.1 ∧ w_fr (fun q => xP q ∨ q = 40 ∨ q = R ∨ q = R + 3) h h' ∧ (∀ b, b ≠ 0 → b ≠ 3 → h' 40 b = h 40 b) ∧ (∀ b, b ≠ 2 → h' R b = h R b) ∧ (h 40 5 = 0 → h' R = h R ∧ h' (R + 3) = h (R + 3) ∧ h' 40 0 = h 40 0) := by
  obtain ⟨hA, hE⟩ := rdA_ok hT hlang hF
  by_cases l2 : lang = 2
  · subst l2
    unfold evl at hr
    rw [if_pos rfl] at hr
    cases hr
    have hR := D.1.1
    obtain ⟨hq0, hq1⟩ := hq
    obtain ⟨g0, a1, a2, a3⟩ := c_72 (h := h) (q := 29) (q2 := q2) (by omega) (by omega)
    unfold p_16
    rw [a1]
    simp only [Option.bind_some, w_let]
    generalize hg : w_up (w_up (w_up g0 28 2 0) 28 3 0) 28 4 (Int32.ofNat 40) = g
    have eg : ∀ z, z ≠ 28 → g z = g0 z := fun z hz => by subst hg; exact funext fun b => by rw [w_up_q hz, w_up_q hz, w_up_q hz]
    have eh : ∀ z, z ≠ 28 → z ≠ 30 → z ≠ 31 → g z = h z := fun z h1 h2 h3 => by rw [eg z h1, a3 z (by omega)]
    have g3 : g 28 3 = 0 := by subst hg; rw [w_up_b (by decide), w_up_at]
    have Hg : cd g q1 (rdA T 2).2 2 := cd_fr H (eh _ (by omega) (by omega) (by omega)) (eh _ (by omega) (by omega) (by omega)) (eh _ (by omega) (by omega) (by omega)) (eh _ (by omega) (by omega) (by omega))
    obtain ⟨h1, b1, b2, b3, b4, b5⟩ := c_30 (e := e) (d := dr) hq0 Hg (fun i hi => cv_fr (a2 i (e i) hi (he i hi)) (eg _ (by decide)) (eg _ (by decide))) g3
    rw [Hg.2.2.2.1, if_pos rfl, b1]
    have fr : ∀ z, z ≠ 28 → z ≠ 30 → z ≠ 31 → h1 z = h z := fun z n1 n2 n3 => by rw [b4 z (by omega), eh z n1 n2 n3]
    have hd : (rul (rdA T 2).2.2.1 (rdA T 2).2.2.2.2.2.1 (rdA T 2).2.2.2.2.2.2.2 e dr).2.2.2.2 = dr := by
      unfold rul
      cases (rdA T 2).2.2.1.find? (fun a => unt e (rdA T 2).2.2.2.2.2.2.2 a.2.1) <;> rfl
    refine ⟨h1, rfl, b2, ?_, b3, fun z hz => ?_, fun b _ _ => by rw [fr 40 (by decide) (by decide) (by decide)], fun b _ => by rw [fr R (by omega) (by omega) (by omega)], fun _ => ⟨fr R (by omega) (by omega) (by omega), fr (R + 3) (by omega) (by omega) (by omega), by rw [fr 40 (by decide) (by decide) (by decide)]⟩⟩
    · rw [hd]
      exact dcx_fr D (fr _ (by omega) (by omega) (by omega)) (fr _ (by omega) (by omega) (by omega)) (fr _ (by omega) (by omega) (by omega))
    · have : ¬ xP z := fun x => hz (Or.inl x)
      unfold xP at this
      exact fr z (by omega) (by omega) (by omega)
  · unfold evl at hr
    rw [if_neg l2] at hr
    refine c_16z hq hq2 (fun i hi => ?_) l2 H he D hr
    have hm := getD_mem hi
    rcases hlang with rfl | rfl | rfl
    · left
      rw [rdA_0] at hm hA ⊢
      exact rss_ok hT 40 (0, [], 0, 0, 0, 0, 0) (Nat.zero_le _) (Nat.le_refl _) (fun a ha => by cases ha) hA _ hm
    · rw [rdA_1] at hm hA ⊢
      obtain ⟨a, b, k, n, p5, p6, x, hQ, e1, -⟩ := rqu_F hA
      rw [e1] at hm ⊢
      obtain ⟨k1, k2, -, -, k5, -, -, -, -, -, k11⟩ := hQ
      exact okQ_qcd k1 k2 (by rcases k5 with ⟨-, h⟩ | ⟨-, h⟩ | ⟨-, h⟩ <;> simp [h]) k11 _ hm
    · exact absurd rfl l2
theorem c_ev {q1 q2 : Nat} {dr : DR} {r : Int32 × Int32 × PM} (hq : apt R q1) (hq2 : 40 < q2) (hT : T.length ≤ 40) (hlang : lang = 0 ∨ lang = 1 ∨ lang = 2) (hF : rdF T lang = -1) (H : cd h q1 (rdA T lang).2 lang) (he : ∀ i, i < 27 → cv h q2 i (e i)) (D : dcx h R p dr) (hr : evl T lang p e dr = some r) : ∃ h', p_16 h q1 q2 = some (r.1, h') ∧ (∀ i, i < 27 → cv h' 29 i (r.2.2.1 i)) ∧ dcx h' R p r.2.2.2.2 ∧ h' 28 3 = r.2.1 ∧ w_fr (fun q => xP q ∨ q = 40 ∨ q = R ∨ q = R + 3) h h' ∧ (∀ b, b ≠ 0 → b ≠ 3 → h' 40 b = h 40 b) ∧ ∀ b, b ≠ 2 → h' R b = h R b := by
  obtain ⟨h', a1, a2, a3, a4, a5, a6, a7, -⟩ := c_evt hq hq2 hT hlang hF H he D hr
  exact ⟨h', a1, a2, a3, a4, a5, a6, a7⟩
/-- what it gave is handed over -/
theorem c_17 {q1 q2 : Nat} {df ch : Int32} (hq1 : 40 < q1) (hq2 : 40 < q2) (hne : q1 ≠ q2 + 1 ∧ q1 ≠ q2 + 2) (h5 : h q1 5 = df) (h6 : h q1 6 = ch) (he : ∀ i, i < 27 → cv h 29 i (e i)) : ∃ h', p_17 h q1 q2 = some h' ∧ (∀ i, i < 27 → cv h' q2 i (gvs df ch e i)) ∧ w_fr (fun z => z = q2 + 1 ∨ z = q2 + 2) h h' := by
  obtain ⟨h1, a1, a2, a3⟩ := c_67 (h := h) (q := q2)
  have lp : ok (w_lp (fun (s : Int32 × Hp) => l_17_4 q1 q2 s.1 s.2) w_N (0, h1)) (fun r => (∀ j, j < 27 → cv r q2 j (if j < 26 ∧ bt (df ||| ch) j = true then e j else none)) ∧ w_fr (fun z => z = q2 + 1 ∨ z = q2 + 2) h r) := by
    refine ok_for (fun i s => s.1 = Int32.ofNat i ∧ (∀ j, j < 27 → cv s.2 q2 j (if j < i ∧ bt (df ||| ch) j = true then e j else none)) ∧ w_fr (fun z => z = q2 + 1 ∨ z = q2 + 2) h s.2) 26 ⟨rfl, fun j hj => by rw [if_neg (by omega)]; exact a2 j hj, w_fr_mono a3 (fun q hq => Or.inl hq)⟩ (by decide) ?_ ?_
    · rintro i ⟨t, g⟩ hi ⟨e1, hc, hf⟩
      simp only at e1 hc hf
      subst e1
      have hlt : Int32.ofNat i < 26 := (u_ltL (by omega) (by decide)).mpr hi
      have g5 : g q1 5 = df := by rw [hf q1 (by omega)]; exact h5
      have g6 : g q1 6 = ch := by rw [hf q1 (by omega)]; exact h6
      show ok (l_17_4 q1 q2 (Int32.ofNat i) g) _
      unfold l_17_4
      rw [if_pos hlt, g5, g6, u_S]
      by_cases hx : bt (df ||| ch) i = true
      · rw [if_neg (fun h => (v126_ne (by omega)).mp h hx)]
        obtain ⟨g2, b1, b2, b3⟩ := c_71 (h := g) (q := q2) (i := i) (q2 := 29) (j := i) (v := e i) (by omega) (by omega) (cv_fr (he i (by omega)) (hf _ (by omega)) (hf _ (by omega))) (by omega) (fun h => by omega)
        rw [b1]
        simp only [Option.bind_some]
        refine ok_some ⟨rfl, fun j hj => ?_, w_fr_trans hf b3.1⟩
        by_cases c : j = i
        · subst c
          rw [if_pos ⟨Nat.lt_succ_self _, hx⟩]; exact b2
        · have := cv_vfr (hc j hj) b3 c
          have e6 : (j < i ∧ bt (df ||| ch) j = true) ↔ (j < i + 1 ∧ bt (df ||| ch) j = true) := ⟨fun h => ⟨by omega, h.2⟩, fun h => ⟨by omega, h.2⟩⟩
          simp only [e6] at this
          exact this
      · rw [if_pos ((v126_ne (by omega)).mpr hx)]
        refine ok_some ⟨rfl, fun j hj => ?_, hf⟩
        have := hc j hj
        have e6 : (j < i ∧ bt (df ||| ch) j = true) ↔ (j < i + 1 ∧ bt (df ||| ch) j = true) := by
          constructor
          · exact fun h => ⟨by omega, h.2⟩
          · intro h
            refine ⟨?_, h.2⟩
            by_cases c : j = i
            · subst c; exact absurd h.2 hx
            · omega
        simp only [e6] at this
        exact this
    · rintro ⟨t, g⟩ ⟨e1, hc, hf⟩
      simp only at e1 hc hf
      subst e1
      show ok (l_17_4 q1 q2 (Int32.ofNat 26) g) _
      unfold l_17_4
      rw [if_neg (show ¬ Int32.ofNat 26 < 26 by decide)]
      exact ok_some ⟨hc, hf⟩
  obtain ⟨g1, k1, k2, k3⟩ := lp
  obtain ⟨g2, b1, b2, b3⟩ := c_71 (h := g1) (q := q2) (i := 26) (q2 := 29) (j := 26) (v := e 26) (by decide) (by decide) (cv_fr (he 26 (by decide)) (k3 _ (by omega)) (k3 _ (by omega))) (by omega) (fun h => by omega)
  refine ⟨g2, ?_, fun j hj => ?_, w_fr_trans k3 b3.1⟩
  · unfold p_17
    rw [a1]
    simp only [Option.bind_some]
    rw [k1]
    simp only [Option.bind_some]
    rw [show p_71 g1 q2 26 29 26 = _ from b1]
    rfl
  · unfold gvs
    by_cases c : j = 26
    · subst c; rw [if_pos (Or.inl rfl)]; exact b2
    · have := cv_vfr (k2 j hj) b3 c
      have e6 : (j < 26 ∧ bt (df ||| ch) j = true) ↔ (j = 26 ∨ bt (df ||| ch) j = true) := ⟨fun h => Or.inr h.2, fun h => ⟨by omega, h.elim (fun h => absurd h c) id⟩⟩
      simp only [e6] at this
      exact this
end S9l
