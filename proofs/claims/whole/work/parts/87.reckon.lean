/-! ===== the model reckons an expression: where it stands ===== -/
def evfP (q : Nat) : Prop := q = 1076 ∨ q = 1095 ∨ q = 1128 ∨ q = 1129 ∨ q = 1130 ∨ q = 1132
/-- what reckoning leaves, of the cell c -/
def evf (c : Nat) (m m' : Hp) : Prop := w_fr evfP m m' ∧ (∀ b, b ≠ 67 → b ≠ 70 → b ≠ 72 → b ≠ 75 → b ≠ 76 → b ≠ 30 → b ≠ 31 → m' 1076 b = m 1076 b) ∧ ∀ b, b < 40 * c ∨ 40 * c + 40 ≤ b ∨ m 1076 29 = 2 → m' 1095 b = m 1095 b
/-- fetching gives fe, whatever was reckoned -/
def FE (c : Nat) (fe : Nat → Option VL) (m : Hp) : Prop := ∀ g, evf c m g → ∀ i, i < 26 → ∃ g', p_194 g (Int32.ofNat c) (Int32.ofNat (97 + i)) = some (ofB (fe i).isSome, g') ∧ mv g' 1132 0 (fe i) ∧ w_fr (fun q => q = 1132) g g'
/-- the text, what is fetched, and the names' values e of those names in nm -/
def EVB (T : List Int32) (c : Nat) (e fe : Nat → Option VL) (nm : Nat → Prop) (m : Hp) : Prop := ld T m ∧ FE c fe m ∧ ∀ i, i < 26 → nm i → (bt (m 1076 74) i = true → (∃ v, e i = some v) ∧ mv m 1131 (9 * i) (e i)) ∧ (¬ bt (m 1076 74) i = true → e i = fe i)
/-- place, operators, values, answers, a part is wanted -/
abbrev MS : Type := Nat × List (Int32 × Nat) × List VL × DR × Bool
def EV (T : List Int32) (c : Nat) (p : DP) (e fe : Nat → Option VL) (nm : Nat → Prop) (m : Hp) (t : MS) : Prop := EVB T c e fe nm m ∧ m 1076 67 = Int32.ofNat t.1 ∧ t.1 ≤ T.length ∧ mk m t.2.1 ∧ t.2.1.length ≤ t.1 ∧ m 1076 70 = Int32.ofNat t.2.1.length ∧ mvs m t.2.2.1 ∧ t.2.2.1.length ≤ 27 ∧ m 1076 72 = Int32.ofNat t.2.2.1.length ∧ m 1076 75 = 0 ∧ m 1076 76 < 0 ∧ dm m c p t.2.2.2.1
/-- an error x was met, with d answers given -/
def EX (c : Nat) (p : DP) (m m' : Hp) (x : Int32) (d : DR) : Prop := ¬ x = 0 ∧ m' 1076 75 = x ∧ m' 1076 76 = m 1076 80 ∧ dm m' c p d
section S87
variable {T : List Int32} {c : Nat} {p : DP} {e fe : Nat → Option VL} {nm : Nat → Prop} {m m' : Hp} {t t' : MS}
theorem evf_refl : evf c m m := ⟨w_fr_refl _ _, fun _ _ _ _ _ _ _ _ => rfl, fun _ _ => rfl⟩
theorem evf_trans {a b d : Hp} (x : evf c a b) (y : evf c b d) : evf c a d := ⟨w_fr_trans x.1 y.1, fun k h1 h2 h3 h4 h5 h6 h7 => (y.2.1 k h1 h2 h3 h4 h5 h6 h7).trans (x.2.1 k h1 h2 h3 h4 h5 h6 h7), fun k h => (y.2.2 k (by rw [x.2.1 29 (by decide) (by decide) (by decide) (by decide) (by decide) (by decide) (by decide)]; exact h)).trans (x.2.2 k h)⟩
theorem evf_apf {a b : Hp} (x : apf a b) : evf c a b := ⟨w_fr_mono x.1 (fun q hq => by unfold evfP; omega), fun k _ h2 h3 h4 h5 _ _ => x.2 k h2 h3 h4 h5, fun k _ => by rw [x.1 1095 (by decide)]⟩
theorem evf_opf {a b : Hp} (x : opf a b) : evf c a b := ⟨w_fr_mono x.1 (fun q hq => by unfold evfP; omega), fun k _ h2 _ _ _ _ _ => x.2 k h2, fun k _ => by rw [x.1 1095 (by decide)]⟩
theorem evf_dmf {a b : Hp} (x : dmf c a b) : evf c a b := ⟨w_fr_mono x.1 (fun q hq => by unfold evfP; omega), fun k _ _ _ _ _ h6 h7 => x.2.1 k h6 h7, x.2.2⟩
theorem evf_sfx {i : Nat} {a b : Hp} (x : sfx i a b) : evf c a b := ⟨w_fr_mono x.1 (fun q hq => by unfold evfP; omega), fun k _ _ h3 _ _ _ _ => x.2.2 k h3, fun k _ => by rw [x.1 1095 (by decide)]⟩
theorem evf_67 {x : Int32} : evf c m (w_up m 1076 67 x) := ⟨w_fr_up (w_fr_refl _ _) (Or.inl rfl), fun b h1 _ _ _ _ _ _ => w_up_b h1, fun b _ => w_up_q (by decide)⟩
theorem evf_f {a b : Hp} (x : w_fr (fun q => q = 1132) a b) : evf c a b := ⟨w_fr_mono x (fun q hq => by unfold evfP; omega), fun k _ _ _ _ _ _ _ => by rw [x 1076 (by decide)], fun k _ => by rw [x 1095 (by decide)]⟩
theorem FE_evf (H : FE c fe m) (f : evf c m m') : FE c fe m' := fun g hg => H g (evf_trans f hg)
theorem EVB_evf (H : EVB T c e fe nm m) (f : evf c m m') : EVB T c e fe nm m' := by
  obtain ⟨h1, h2, h3⟩ := H
  have n1 : m' 1127 = m 1127 := f.1 1127 (by unfold evfP; omega)
  have n2 : m' 1131 = m 1131 := f.1 1131 (by unfold evfP; omega)
  refine ⟨⟨h1.1, ?_, ?_⟩, FE_evf h2 f, fun i hi hn => ?_⟩
  · rw [f.2.1 66 (by decide) (by decide) (by decide) (by decide) (by decide) (by decide) (by decide)]; exact h1.2.1
  · rw [n1]; exact h1.2.2
  · rw [f.2.1 74 (by decide) (by decide) (by decide) (by decide) (by decide) (by decide) (by decide)]
    refine ⟨fun hb => ?_, fun hb => (h3 i hi hn).2 hb⟩
    obtain ⟨a1, a2⟩ := (h3 i hi hn).1 hb
    refine ⟨a1, ?_⟩
    obtain ⟨v, ev⟩ := a1
    rw [ev] at a2 ⊢
    cases v with
    | inl n => exact ⟨by rw [n2]; exact a2.1, by rw [n2]; exact a2.2⟩
    | inr l => exact ⟨a2.1, by rw [n2]; exact a2.2.1, by rw [n2]; exact a2.2.2⟩
theorem dm_fr {d : DR} (H : dm m c p d) (f1 : m' 1095 = m 1095) (f2 : m' 1099 = m 1099) (f3 : ∀ b, b ≠ 67 → b ≠ 70 → b ≠ 72 → b ≠ 75 → b ≠ 76 → m' 1076 b = m 1076 b) : dm m' c p d := by
  unfold dm at H ⊢
  rw [f1, f2, f3 77 (by decide) (by decide) (by decide) (by decide) (by decide), f3 30 (by decide) (by decide) (by decide) (by decide) (by decide), f3 28 (by decide) (by decide) (by decide) (by decide) (by decide), f3 29 (by decide) (by decide) (by decide) (by decide) (by decide), f3 31 (by decide) (by decide) (by decide) (by decide) (by decide), f3 32 (by decide) (by decide) (by decide) (by decide) (by decide)]
  exact H
/-- the place alone changes -/
theorem EV_67 {a : Nat} (H : EV T c p e fe nm m t) (ha : t.1 ≤ a) (hT : a ≤ T.length) {b : Bool} : EV T c p e fe nm (w_up m 1076 67 (Int32.ofNat a)) (a, t.2.1, t.2.2.1, t.2.2.2.1, b) := by
  obtain ⟨h1, h2, h3, h4, h5, h6, h7, h8, h9, h10, h11, h12⟩ := H
  refine ⟨EVB_evf h1 evf_67, w_up_at, hT, mk_up _ h4 (Or.inl rfl), Nat.le_trans h5 ha, ?_, mvs_b h7 (fun b _ => w_up_q (by decide)), h8, ?_, ?_, ?_, dm_fr h12 (funext fun b => w_up_q (by decide)) (funext fun b => w_up_q (by decide)) (fun b h1 _ _ _ _ => w_up_b h1)⟩
  · rw [w_up_b (by decide)]; exact h6
  · rw [w_up_b (by decide)]; exact h9
  · rw [w_up_b (by decide)]; exact h10
  · rw [w_up_b (by decide)]; exact h11
theorem EV_b (H : EV T c p e fe nm m t) {b : Bool} : EV T c p e fe nm m (t.1, t.2.1, t.2.2.1, t.2.2.2.1, b) := H
/-- flushing leaves names and answers -/
theorem fls_st : ∀ (Q : List (Int32 × Nat)) (P : PM) (r : Int32 × PM), (∀ a ∈ Q, isO a.1) → fls p Q P = some r → r.2.1 = P.1 ∧ r.2.2.2 = P.2.2 ∧ r.2.2.1.length ≤ P.2.1.length := by
  intro Q
  induction Q with
  | nil => intro P r _ h; cases h; exact ⟨rfl, rfl, Nat.le_refl _⟩
  | cons a Q ih =>
    intro P r hQ h
    simp only [fls] at h
    cases hx : xs p (ock a.1) 0 P with
    | none => rw [hx] at h; cases h
    | some r1 =>
      rw [hx] at h
      have q1 := hQ a (List.mem_cons_self ..)
      have s1 := xs_st (by rcases q1 with h | h | h | h <;> (rw [h]; decide)) hx
      by_cases e0 : r1.1 = 0
      · simp only [e0, if_true] at h
        have s2 := ih r1.2 r (fun x hx => hQ x (List.mem_cons_of_mem _ hx)) h
        exact ⟨s2.1.trans s1.1, s2.2.1.trans s1.2.1, Nat.le_trans s2.2.2 s1.2.2⟩
      · simp only [e0, if_false] at h
        cases h
        exact s1
def low (n : Int32) (O : List (Int32 × Nat)) : Prop := ∀ a O'', O = a :: O'' → v_201 a.1 < n
def opsN (n : Int32) (Q : List (Int32 × Nat)) : Prop := ∀ a ∈ Q, isO a.1 ∧ ¬ v_201 a.1 < n
theorem m_202 {Q O : List (Int32 × Nat)} {a : Nat} {V : List VL} {d : DR} {b : Bool} {n : Int32} {r : Int32 × PM} (H : EV T c p e fe nm m (a, Q ++ O, V, d, b)) (hQ : opsN n Q) (hO : low n O) (hx : fls p Q (e, V, d) = some r) : ∃ m', p_202 m n = some m' ∧ evf c m m' ∧ m' 1076 67 = m 1076 67 ∧ (r.1 = 0 → EV T c p e fe nm m' (a, O, r.2.2.1, r.2.2.2, b)) ∧ (¬ r.1 = 0 → EX c p m m' r.1 r.2.2.2) ∧ ∃ k, k ≤ a ∧ m' 1076 70 = Int32.ofNat k := by
  obtain ⟨h1, h2, h3, h4, h5, h6, h7, h8, h9, h10, h11, h12⟩ := H
  have h3' : a ≤ T.length := h3
  have h5' : (Q ++ O).length ≤ a := h5
  have hT := h1.1.1
  obtain ⟨s1, s2, s3⟩ := fls_st Q (e, V, d) r (fun x hx => (hQ x hx).1) hx
  have hl : Q.length ≤ a := by rw [List.length_append] at h5'; omega
  obtain ⟨m', a1, a2, a3, a4, k, k1, k2⟩ := m_202L (p := p) (O' := O) (n := n) hO Q (e, V, d) m w_N r hQ h4 (by omega) h6 h7 h8 h9 h10 h11 hx (by unfold w_N; omega)
  have f := evf_apf (c := c) a2
  have e67 : m' 1076 67 = m 1076 67 := a2.2 67 (by decide) (by decide) (by decide) (by decide)
  have D : dm m' c p d := dm_fr h12 (a2.1 _ (by decide)) (a2.1 _ (by decide)) (fun b _ h2 h3 h4 h5 => a2.2 b h2 h3 h4 h5)
  have D' : dm m' c p r.2.2.2 := by rw [s2]; exact D
  refine ⟨m', a1, f, e67, fun h0 => ?_, fun h0 => ?_, k, by omega, k2⟩
  · obtain ⟨b1, b2, b3, b4, b5, b6⟩ := a3 h0
    refine ⟨EVB_evf h1 f, e67.trans h2, h3, b1, ?_, b2, b3, ?_, b4, b5, b6, D'⟩
    · show O.length ≤ a
      rw [List.length_append] at h5'; omega
    · exact Nat.le_trans s3 h8
  · obtain ⟨b1, b2⟩ := a4 h0
    exact ⟨h0, b1, b2, D'⟩
end S87
