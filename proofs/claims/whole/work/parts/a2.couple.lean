/-! ===== the two heaps coupled ===== -/
/-- the widgets that were needed are there -/
def NB (m : Hp) (c : Nat) : Prop := ∀ w, w < 4 → bt (m 1090 c) (16 + w) = true → Int32.ofNat w < m 1076 48
/-- a place for a cell: runs kept, draws, edits, what the checkpoint keeps, when it was run -/
def PL (h m : Hp) (n k B c : Nat) : Prop :=
  (∃ pc po F, PAST h m c (m 1081 c) pc po F ∧ (n ≤ c → pc = 0)) ∧
  (∃ D L, drc h (64 * c + 65) D L ∧ dr1 m c D L) ∧
  (h (64 * c + 52) 10 = m 1082 c ∧ ∃ e r, e ≤ B ∧ r ≤ e ∧ m 1082 c = Int32.ofNat e ∧ m 1089 c = Int32.ofNat r ∧ NB m c) ∧
  (h (64 * c + 52) 16 = m 1106 c ∧ (m 1106 c = 0 ∨ m 1106 c = 1) ∧ (n ≤ c → m 1106 c = 0) ∧ (¬ m 1106 c = 0 → ∃ E, KE h m (64 * c + 69) 1107 1108 1109 1110 1111 c (m 1081 c) E)) ∧
  (∃ s, s ≤ k ∧ m 1088 c = Int32.ofNat s) ∧
  (n ≤ c → h (64 * c + 52) 15 = 0 ∧ h (64 * c + 52) 14 = 0 ∧ m 1087 c = 0 ∧ m 1088 c = 0)
/-- a cell: its text, and what came of its run -/
def CT (h m : Hp) (c : Nat) : Prop := ∃ T, cel h m c T (m 1081 c) ∧ (¬ h (64 * c + 52) 15 = 0 → outc h m c T (m 1081 c))
/-- chance, time, counts, mode -/
def SCL (h m : Hp) (k : Nat) : Prop := h 40 0 = m 1076 31 ∧ h 40 1 = m 1076 32 ∧ m 1076 29 = 0 ∧ h 0 12 = m 1076 20 ∧ h 0 13 = m 1076 21 ∧ h 0 14 = Int32.ofNat k ∧ m 1076 19 = Int32.ofNat k ∧ h 0 11 = m 1076 22
/-- whether it can be restored, and what was FRESH or FAILED -/
def RSB (h m : Hp) (n : Nat) : Prop := h 0 17 = m 1076 45 ∧ (h 0 17 = 0 ∨ h 0 17 = 1) ∧ h 0 15 = m 1076 46 ∧ h 0 16 = m 1076 47 ∧ (¬ h 0 17 = 0 → ∀ c, c < n → h (64 * c + 52) 15 = 0 ∧ m 1100 c = 0)
/-- the widgets -/
def WG (h m : Hp) (nw : Nat) : Prop := (∀ w, w < nw → h 6 w = m 1113 w ∧ h 7 w = m 1114 w ∧ h 6 w ≤ h 7 w) ∧ (∀ w, bt (h 4 6) w = true → w < nw ∧ h 9 w = m 1116 w) ∧ (∀ w, w < 4 → bt (h 4 6) w = (!decide (m 1117 w = 0)) ∧ (m 1117 w = 0 ∨ m 1117 w = 1)) ∧ ∀ v w, v < 4 → w < 4 → bt (h 10 v) w = !decide (m 1118 (4 * v + w) = 0) ∧ m 1118 (4 * v + w) = m 1118 (4 * w + v) ∧ (nw ≤ v → m 1118 (4 * v + w) = 0)
/-- what the hands have typed -/
def TY (h m : Hp) : Prop := ∀ i, i < 2 → ∃ T, tx h (48 + 2 * i) T ∧ m 1078 i = Int32.ofNat T.length ∧ tm m 1077 (40 * i) T
/-- a cell that ran well had a value of each name that it uses, and has it from there still, if that did not run since -/
def UH (h : Hp) (n nw c : Nat) : Prop := ¬ h (64 * c + 52) 15 = 0 → h (64 * c + 52) 11 = 0 → ∀ x, x < 26 → bt (h (64 * c + 55) 7) x = true → (∃ w, w < nw ∧ h 5 w = Int32.ofNat x) ∨ ∃ j, j < n ∧ j ≠ c ∧ bt (h (64 * c + 52) 13) j = true ∧ (h (64 * j + 52) 15 = 0 ∨ h (64 * c + 52) 14 < h (64 * j + 52) 14 ∨ bt (h (64 * j + 55) 5) x = true ∨ (bt (h (64 * j + 55) 6) x = true ∧ (¬ bt (h (64 * c + 55) 6) x = true ∨ j < c)))
def CP (h m : Hp) (n nw k B : Nat) : Prop := (k ≤ B ∧ B ≤ 1000000) ∧ JOK h n nw ∧ MW h m n nw ∧ RC h m n nw ∧ SCL h m k ∧ RSB h m n ∧ WG h m nw ∧ TY h m ∧ (∀ c, c < 16 → PL h m n k B c) ∧ (∀ c, c < n → CT h m c) ∧ vld m 1093 ∧ (vld m 1123 ∧ ∀ c, c < n → UH h n nw c)
/-! what stays -/
/-- of the cell c, in the class -/
def sch (c : Nat) (h h' : Hp) : Prop := ∀ z, 64 * c + 52 ≤ z → z < 64 * c + 116 → ¬ (64 * c + 62 ≤ z ∧ z ≤ 64 * c + 64) → h' z = h z
/-- of the cell c, in the model -/
def scm (c : Nat) (m m' : Hp) : Prop :=
  (∀ q, ((1080 ≤ q ∧ q ≤ 1090) ∨ q = 1092 ∨ q = 1096 ∨ q = 1098 ∨ q = 1100 ∨ q = 1106 ∨ q = 1108) → m' q c = m q c) ∧
  (∀ q b, (q = 1079 ∨ q = 1095 ∨ q = 1097 ∨ q = 1107) → b < 40 → m' q (40 * c + b) = m q (40 * c + b)) ∧
  (∀ q b, (q = 1093 ∨ q = 1109 ∨ q = 1110) → b < 234 → m' q (234 * c + b) = m q (234 * c + b)) ∧
  (∀ q b, (q = 1094 ∨ q = 1111) → b < 9 → m' q (9 * c + b) = m q (9 * c + b)) ∧
  (∀ b, b < 4 → m' 1091 (4 * c + b) = m 1091 (4 * c + b)) ∧
  ∀ k, 4 * c ≤ k → k < 4 * c + 4 → (∀ b, b < 40 → m' 1101 (40 * k + b) = m 1101 (40 * k + b)) ∧ m' 1102 k = m 1102 k ∧ (∀ b, b < 234 → m' 1103 (234 * k + b) = m 1103 (234 * k + b)) ∧ (∀ b, b < 234 → m' 1104 (234 * k + b) = m 1104 (234 * k + b)) ∧ ∀ b, b < 9 → m' 1105 (9 * k + b) = m 1105 (9 * k + b)
section SA2
variable {h h' m m' : Hp} {n nw k k' B B' c : Nat} {T : List Int32} {lang : Int32}
theorem mv_at {r o : Nat} {v : Option VL} (H : mv m r o v) (e : ∀ b, b < 9 → m' r (o + b) = m r (o + b)) : mv m' r o v := mv_fr H (fun b h1 h2 => by
  have := e (b - o) (by omega)
  rw [show o + (b - o) = b by omega] at this; exact this)
theorem mv_234 {r c x : Nat} {v : Option VL} (hx : x < 26) (H : mv m r (234 * c + 9 * x) v) (e : ∀ b, b < 234 → m' r (234 * c + b) = m r (234 * c + b)) : mv m' r (234 * c + 9 * x) v := mv_at H (fun b hb => by
  have := e (9 * x + b) (by omega)
  rw [← Nat.add_assoc] at this; exact this)
theorem tm_40 {r c : Nat} {D : List Int32} (hl : D.length ≤ 40) (H : tm m r (40 * c) D) (e : ∀ b, b < 40 → m' r (40 * c + b) = m r (40 * c + b)) : tm m' r (40 * c) D := fun i hi => by rw [e i (by omega)]; exact H i hi
theorem KE_fr {q r1 r2 r3 r4 r5 k0 : Nat} {E : KEn} (K : KE h m q r1 r2 r3 r4 r5 k0 lang E) (eh : ∀ z, q < z → z ≤ q + 8 → h' z = h z) (f1 : ∀ b, b < 40 → m' r1 (40 * k0 + b) = m r1 (40 * k0 + b)) (f2 : m' r2 k0 = m r2 k0) (f3 : ∀ b, b < 234 → m' r3 (234 * k0 + b) = m r3 (234 * k0 + b)) (f4 : ∀ b, b < 234 → m' r4 (234 * k0 + b) = m r4 (234 * k0 + b)) (f5 : ∀ b, b < 9 → m' r5 (9 * k0 + b) = m r5 (9 * k0 + b)) : KE h' m' q r1 r2 r3 r4 r5 k0 lang E :=
  KE_mv K (by rw [eh _ (by omega) (by omega)]) (eh _ (by omega) (by omega)) (eh _ (by omega) (by omega)) (eh _ (by omega) (by omega)) (eh _ (by omega) (by omega)) (eh _ (by omega) (by omega)) f1 f2 f3 f4 f5
theorem drc_fr {R : Nat} {D L : List Int32} (H : drc h R D L) (eh : ∀ z, R ≤ z → z ≤ R + 3 → h' z = h z) : drc h' R D L := by
  obtain ⟨a1, a2, a3, a4⟩ := H
  exact ⟨tx_fr2 a1 (eh _ (by omega) (by omega)) (eh _ (by omega) (by omega)), a2, by rw [eh _ (by omega) (by omega)]; exact a3, fun i hi => by rw [eh _ (by omega) (by omega)]; exact a4 i hi⟩
theorem dr1_fr {D L : List Int32} (H : dr1 m c D L) (e1 : ∀ b, b < 40 → m' 1097 (40 * c + b) = m 1097 (40 * c + b)) (e2 : m' 1098 c = m 1098 c) (e3 : m' 1096 c = m 1096 c) (e4 : ∀ b, b < 40 → m' 1095 (40 * c + b) = m 1095 (40 * c + b)) : dr1 m' c D L := by
  obtain ⟨a1, a2, a3, a4, a5, a6⟩ := H
  exact ⟨a1, tm_40 a1 a2 e1, e2.trans a3, e3.trans a4, a5, tm_40 a5 a6 e4⟩
theorem PL_fr (H : PL h m n k B c) (hk : k ≤ k') (hB : B ≤ B') (eh : sch c h h') (em : scm c m m') (e48 : m' 1076 48 = m 1076 48) : PL h' m' n k' B' c := by
  obtain ⟨⟨pc, po, F, P, p0⟩, ⟨D, L, d1, d2⟩, ⟨x1, e, r, x2, x3, x4, x5⟩, ⟨y1, y2, y3, y4⟩, ⟨s, s1, s2⟩, z⟩ := H
  obtain ⟨m1, m2, m3, m4, m5, m6⟩ := em
  have e52 : h' (64 * c + 52) = h (64 * c + 52) := eh _ (by omega) (by omega) (by omega)
  have la : m' 1081 c = m 1081 c := m1 1081 (by omega)
  refine ⟨⟨pc, po, F, ?_, p0⟩, ⟨D, L, drc_fr d1 (fun z a b => eh z (by omega) (by omega) (by omega)), dr1_fr d2 (fun b hb => m2 1097 b (by omega) hb) (m1 1098 (by omega)) (m1 1096 (by omega)) (fun b hb => m2 1095 b (by omega) hb)⟩, ⟨?_, e, r, by omega, x3, ?_, ?_⟩, ⟨?_, ?_, fun hn => ?_, fun hn => ?_⟩, ⟨s, by omega, ?_⟩, fun hn => ?_⟩
  · rw [la]
    exact PAST_mv P (by rw [e52]) (by rw [e52]) (fun z a b => eh z (by omega) (by omega) (by omega)) (m1 1100 (by omega)) (fun kk a b => m6 kk a b)
  · rw [e52, m1 1082 (by omega)]; exact x1
  · rw [m1 1082 (by omega)]; exact x4
  · refine ⟨by rw [m1 1089 (by omega)]; exact x5.1, fun w hw hb => ?_⟩
    rw [m1 1090 (by omega)] at hb
    rw [e48]; exact x5.2 w hw hb
  · rw [e52, m1 1106 (by omega)]; exact y1
  · rw [m1 1106 (by omega)]; exact y2
  · rw [m1 1106 (by omega)]; exact y3 hn
  · rw [m1 1106 (by omega)] at hn
    obtain ⟨E, K⟩ := y4 hn
    rw [la]
    exact ⟨E, KE_fr K (fun z a b => eh z (by omega) (by omega) (by omega)) (fun b hb => m2 1107 b (by omega) hb) (m1 1108 (by omega)) (fun b hb => m3 1109 b (by omega) hb) (fun b hb => m3 1110 b (by omega) hb) (fun b hb => m4 1111 b (by omega) hb)⟩
  · rw [m1 1088 (by omega)]; exact s2
  · rw [e52, m1 1087 (by omega), m1 1088 (by omega)]; exact z hn
theorem outc_fr (H : outc h m c T lang) (eh : sch c h h') (em : scm c m m') : outc h' m' c T lang := by
  obtain ⟨a1, a2⟩ := H
  obtain ⟨m1, m2, m3, m4, m5, m6⟩ := em
  have e52 : h' (64 * c + 52) = h (64 * c + 52) := eh _ (by omega) (by omega) (by omega)
  refine ⟨fun h0 => ?_, fun h0 => ?_⟩
  · rw [e52] at h0
    obtain ⟨b1, V, g1, g2, g3, g4⟩ := a1 h0
    refine ⟨by rw [m1 1092 (by omega)]; exact b1, V, fun x hx => cv_fr (g1 x hx) (eh _ (by omega) (by omega) (by omega)) (eh _ (by omega) (by omega) (by omega)), fun x hx => mv_234 hx (g2 x hx) (fun b hb => m3 1093 b (by omega) hb), mv_at g3 (fun b hb => m4 1094 b (by omega) hb), g4⟩
  · rw [e52] at h0 ⊢
    rw [m1 1092 (by omega)]; exact a2 h0
theorem CT_fr (H : CT h m c) (eh : sch c h h') (em : scm c m m') : CT h' m' c := by
  obtain ⟨T, C, O⟩ := H
  have e52 : h' (64 * c + 52) = h (64 * c + 52) := eh _ (by omega) (by omega) (by omega)
  have la : m' 1081 c = m 1081 c := em.1 1081 (by omega)
  unfold CT
  rw [la, e52]
  exact ⟨T, cel_fr C (fun kk hk => eh _ (by omega) (by omega) (by omega)) (by rw [e52]) ⟨em.1 1080 (by omega), em.1 1081 (by omega), em.1 1082 (by omega), em.1 1083 (by omega), em.1 1084 (by omega), em.1 1085 (by omega), em.1 1086 (by omega)⟩ (fun b h1 h2 => by
    have := em.2.1 1079 (b - 40 * c) (by omega) (by omega)
    rw [show 40 * c + (b - 40 * c) = b by omega] at this; exact this), fun hh => outc_fr (O hh) eh em⟩
/-! the web -/
theorem cl_congr {nd nd' : Nat → Nat → Bool} (e : ∀ c, c < n → ∀ j, nd c j = nd' c j) : ∀ v, v ≤ n → ∀ c, c < n → ∀ j, cl nd v c j = cl nd' v c j := by
  intro v
  induction v with
  | zero => intro _ c hc j; exact e c hc j
  | succ v ih =>
    intro hv c hc j
    simp only [cl]
    rw [ih (by omega) c hc j, ih (by omega) c hc v, ih (by omega) v (by omega) j]
theorem nxf_congr {nd nd' : Nat → Nat → Bool} {tw : Nat → Bool} {l : List Nat} (e : ∀ c, c < n → ∀ j, nd c j = nd' c j) (hc : c < n) : nxf n nd tw l c = nxf n nd' tw l c := by
  have e1 : anyb (fun j => (decide (j = c) || cl nd n c j) && (tw j || (decide (j < n) && cl nd n j j))) 32 = anyb (fun j => (decide (j = c) || cl nd' n c j) && (tw j || (decide (j < n) && cl nd' n j j))) 32 := anyb_congr 32 (fun j _ => by
    rw [cl_congr e n (Nat.le_refl _) c hc j]
    by_cases hj : j < n
    · rw [cl_congr e n (Nat.le_refl _) j hj j]
    · simp [hj])
  have e2 : anyb (fun j => nd c j && !decide (j ∈ l)) 32 = anyb (fun j => nd' c j && !decide (j ∈ l)) 32 := anyb_congr 32 (fun j _ => by rw [e c hc j])
  unfold nxf okb
  rw [e1, e2]
theorem ordl_congr {nd nd' : Nat → Nat → Bool} {tw : Nat → Bool} (e : ∀ c, c < n → ∀ j, nd c j = nd' c j) : ∀ i, ordl n nd tw i = ordl n nd' tw i := by
  intro i
  induction i with
  | zero => rfl
  | succ i ih =>
    simp only [ordl]
    rw [ih, fst1_congr n (fun c hc => nxf_congr e hc)]
theorem dfh_eq (h16 : n ≤ 16) (e5 : h' 5 = h 5) (ec : ∀ j, j < 16 → h' (64 * j + 55) = h (64 * j + 55)) : dfh h' n nw = dfh h n nw := by
  funext x j
  unfold dfh
  rw [e5]
  by_cases hj : j < n
  · rw [ec j (by omega)]
  · simp [hj]
theorem chh_eq (h16 : n ≤ 16) (ec : ∀ j, j < 16 → h' (64 * j + 55) = h (64 * j + 55)) : chh h' n = chh h n := by
  funext x j
  unfold chh
  by_cases hj : j < n
  · rw [ec j (by omega)]
  · simp [hj]
theorem ndh_eq (h16 : n ≤ 16) (e5 : h' 5 = h 5) (ec : ∀ j, j < 16 → h' (64 * j + 55) = h (64 * j + 55)) (hc : c < 16) (j : Nat) : ndh h' n nw c j = ndh h n nw c j := by
  unfold ndh
  rw [dfh_eq h16 e5 ec, chh_eq h16 ec, ec c hc]
theorem ndc_eq (h16 : n ≤ 16) (e5 : h' 5 = h 5) (ec : ∀ j, j < 16 → h' (64 * j + 55) = h (64 * j + 55)) (hc : c < 16) (j : Nat) : ndc h' n nw c j = ndc h n nw c j := by
  unfold ndc
  rw [ndh_eq h16 e5 ec hc j]
theorem twh_eq (h16 : n ≤ 16) (e5 : h' 5 = h 5) (ec : ∀ j, j < 16 → h' (64 * j + 55) = h (64 * j + 55)) : twh h' n nw = twh h n nw := by
  funext x j
  unfold twh
  rw [dfh_eq h16 e5 ec]
theorem JOK_fr (H : JOK h n nw) (e0 : h' 0 10 = h 0 10) (e4 : h' 4 7 = h 4 7) (e5 : h' 5 = h 5) (ew : ∀ z, 11 ≤ z → z ≤ 16 → h' z = h z) (ec : ∀ j, j < 16 → h' (64 * j + 55) = h (64 * j + 55)) : JOK h' n nw := by
  obtain ⟨h16, a1, a2, a3, w1, w2, w3, w4, w5, w6, w7⟩ := H
  have en : ∀ c, c < n → ∀ j, ndc h' n nw c j = ndc h n nw c j := fun c hc j => ndc_eq h16 e5 ec (by omega) j
  refine ⟨h16, e0.trans a1, e4.trans a2, a3, ?_, ?_, ?_, ?_, ?_, ?_, ?_⟩
  · rw [ew 11 (by omega) (by omega)]; exact w1
  · rw [ew 12 (by omega) (by omega), ew 13 (by omega) (by omega), dfh_eq h16 e5 ec, chh_eq h16 ec]; exact w2
  · rw [ew 11 (by omega) (by omega), twh_eq h16 e5 ec]; exact w3
  · intro c hc
    rw [ew 14 (by omega) (by omega), ew 15 (by omega) (by omega)]
    exact ⟨fun j hj => by rw [ndh_eq h16 e5 ec (by omega) j]; exact (w4 c hc).1 j hj, fun j hj => by rw [cl_congr en n (Nat.le_refl _) c hc j]; exact (w4 c hc).2 j hj⟩
  · intro j
    rw [ew 11 (by omega) (by omega), w5 j]
    by_cases hj : j < n
    · rw [cl_congr en n (Nat.le_refl _) j hj j]
    · simp [hj]
  · rw [ew 11 (by omega) (by omega), twh_eq h16 e5 ec, ordl_congr en]; exact w6
  · rw [ew 16 (by omega) (by omega), twh_eq h16 e5 ec, ordl_congr en]; exact w7
theorem MW_eq (H : MW h m n nw) (e5 : h' 5 = h 5) (ec : ∀ j, j < 16 → h' (64 * j + 55) = h (64 * j + 55)) (e2 : m' 1076 2 = m 1076 2) (e48 : m' 1076 48 = m 1076 48) (em : ∀ q, (q = 1083 ∨ q = 1084 ∨ q = 1085 ∨ q = 1112) → m' q = m q) : MW h' m' n nw := by
  obtain ⟨a1, a2, a3, a4, a5, a6, a7⟩ := H
  refine ⟨a1, a2, e2.trans a3, e48.trans a4, fun c hc => ?_, fun w hw => ?_, ?_⟩
  · rw [em 1083 (by omega), em 1084 (by omega), em 1085 (by omega), ec c (by omega)]; exact a5 c hc
  · rw [em 1112 (by omega), e5]; exact a6 w hw
  · rw [e5]; exact a7
/-! all -/
/-- rows of the class that count -/
def hRw (z : Nat) : Prop := z < 1076 ∧ z ≠ 3 ∧ (z < 17 ∨ 48 ≤ z) ∧ (z < 52 ∨ ¬ (10 ≤ (z - 52) % 64 ∧ (z - 52) % 64 ≤ 12))
/-- rows, and slots of the model itself, that count -/
def mRw (q : Nat) : Prop := 1077 ≤ q ∧ q ≤ 1118 ∧ q ≠ 1099
def mSl (b : Nat) : Prop := b = 2 ∨ (19 ≤ b ∧ b ≤ 22) ∨ b = 29 ∨ b = 31 ∨ b = 32 ∨ (45 ≤ b ∧ b ≤ 48)
theorem sch_of (hc : c < 16) (eh : ∀ z, hRw z → h' z = h z) : sch c h h' := fun z a b d => eh z (by unfold hRw; omega)
theorem scm_of (em : ∀ q, mRw q → m' q = m q) : scm c m m' := by
  refine ⟨fun q hq => ?_, fun q b hq hb => ?_, fun q b hq hb => ?_, fun q b hq hb => ?_, fun b hb => ?_, fun k a b => ⟨fun b hb => ?_, ?_, fun b hb => ?_, fun b hb => ?_, fun b hb => ?_⟩⟩
  all_goals rw [em _ (by unfold mRw; omega)]
theorem WG_fr (H : WG h m nw) (e4 : h' 4 6 = h 4 6) (eh : ∀ z, (z = 6 ∨ z = 7 ∨ z = 9 ∨ z = 10) → h' z = h z) (em : ∀ q, (q = 1113 ∨ q = 1114 ∨ q = 1116 ∨ q = 1117 ∨ q = 1118) → m' q = m q) : WG h' m' nw := by
  unfold WG at *
  rw [e4, eh 6 (by omega), eh 7 (by omega), eh 9 (by omega), eh 10 (by omega), em 1113 (by omega), em 1114 (by omega), em 1116 (by omega), em 1117 (by omega), em 1118 (by omega)]
  exact H
theorem TY_fr (H : TY h m) (eh : ∀ z, 48 ≤ z → z ≤ 51 → h' z = h z) (em : ∀ q, (q = 1077 ∨ q = 1078) → m' q = m q) : TY h' m' := by
  intro i hi
  obtain ⟨T, a, b, d⟩ := H i hi
  exact ⟨T, tx_fr2 a (eh _ (by omega) (by omega)) (eh _ (by omega) (by omega)), by rw [em 1078 (by omega)]; exact b, fun j hj => by rw [em 1077 (by omega)]; exact d j hj⟩
theorem RC_fr (H : RC h m n nw) (h16 : n ≤ 16) (h4 : nw ≤ 4) (e8 : h' 8 = h 8) (e15 : m' 1115 = m 1115) (eh : ∀ c, c < n → sch c h h') (em : ∀ c, c < n → scm c m m') : RC h' m' n nw := by
  obtain ⟨r1, r2, r3⟩ := H
  refine ⟨fun w hw => by rw [e8, e15]; exact r1 w hw, fun c hc => ?_, fun c k hc hk hne => ?_⟩
  · have e52 : h' (64 * c + 52) = h (64 * c + 52) := eh c hc _ (by omega) (by omega) (by omega)
    have e79 : h' (64 * c + 79) = h (64 * c + 79) := eh c hc _ (by omega) (by omega) (by omega)
    have m1 := (em c hc).1
    obtain ⟨q1, q2, q3, q4⟩ := r2 c hc
    rw [e52, e79, m1 1087 (by omega), m1 1089 (by omega), m1 1082 (by omega), m1 1088 (by omega), m1 1090 (by omega)]
    refine ⟨q1, q2, q3, fun hh => ?_⟩
    obtain ⟨t1, t2, t3, t4⟩ := q4 hh
    exact ⟨t1, t2, fun w hw hb => by rw [(em c hc).2.2.2.2.1 w (by omega)]; exact t3 w hw hb, t4⟩
  · rw [(em c hc).1 1088 (by omega), (em k hk).1 1088 (by omega)]; exact r3 c k hc hk hne
theorem UH_fr (U : UH h n nw c) (hc : c < 16) (e5 : h' 5 = h 5) (e52 : ∀ j, j < 16 → h' (64 * j + 52) = h (64 * j + 52)) (e55 : ∀ j, j < 16 → h' (64 * j + 55) = h (64 * j + 55)) (h16 : n ≤ 16) : UH h' n nw c := by
  intro a1 a2 x hx hu
  rw [e52 c hc] at a1 a2
  rw [e55 c hc] at hu
  rcases U a1 a2 x hx hu with ⟨w, w1, w2⟩ | ⟨j, j1, j2, j3, j4⟩
  · exact Or.inl ⟨w, w1, by rw [e5]; exact w2⟩
  · refine Or.inr ⟨j, j1, j2, by rw [e52 c hc]; exact j3, ?_⟩
    rw [e52 j (by omega), e52 c hc, e55 j (by omega), e55 c hc]; exact j4
theorem CP_fr (H : CP h m n nw k B) (hB : B ≤ B' ∧ B' ≤ 1000000) (eh : ∀ z, hRw z → h' z = h z) (e40 : h' 40 0 = h 40 0 ∧ h' 40 1 = h 40 1) (em : ∀ q, mRw q → m' q = m q) (e76 : ∀ b, mSl b → m' 1076 b = m 1076 b) (hv : vld m' 1123) : CP h' m' n nw k B' := by
  obtain ⟨⟨b1, b2⟩, J, W, R, S, Q, G, Y, P, C, V, -, U⟩ := H
  have h16 := J.1
  have h4 := J.2.2.2.1
  have ec : ∀ j, j < 16 → h' (64 * j + 55) = h (64 * j + 55) := fun j hj => eh _ (by unfold hRw; omega)
  have e0 : h' 0 = h 0 := eh 0 (by unfold hRw; omega)
  have e5 : h' 5 = h 5 := eh 5 (by unfold hRw; omega)
  have e4 : h' 4 = h 4 := eh 4 (by unfold hRw; omega)
  refine ⟨⟨by omega, hB.2⟩, JOK_fr J (by rw [e0]) (by rw [e4]) e5 (fun z a b => eh z (by unfold hRw; omega)) ec, MW_eq W e5 ec (e76 2 (by unfold mSl; omega)) (e76 48 (by unfold mSl; omega)) (fun q hq => em q (by unfold mRw; omega)), RC_fr R h16 h4 (eh 8 (by unfold hRw; omega)) (em 1115 (by unfold mRw; omega)) (fun c hc => sch_of (by omega) eh) (fun c hc => scm_of em), ?_, ?_, WG_fr G (by rw [e4]) (fun z hz => eh z (by unfold hRw; omega)) (fun q hq => em q (by unfold mRw; omega)), TY_fr Y (fun z a b => eh z (by unfold hRw; omega)) (fun q hq => em q (by unfold mRw; omega)), fun c hc => PL_fr (P c hc) (Nat.le_refl _) hB.1 (sch_of hc eh) (scm_of em) (e76 48 (by unfold mSl; omega)), fun c hc => CT_fr (C c hc) (sch_of (by omega) eh) (scm_of em), fun j x hj hx => ?_, hv, fun c hc => UH_fr (U c hc) (by omega) e5 (fun j hj => eh _ (by unfold hRw; omega)) ec h16⟩
  · unfold SCL at *
    rw [e40.1, e40.2, e0, e76 31 (by unfold mSl; omega), e76 32 (by unfold mSl; omega), e76 29 (by unfold mSl; omega), e76 20 (by unfold mSl; omega), e76 21 (by unfold mSl; omega), e76 19 (by unfold mSl; omega), e76 22 (by unfold mSl; omega)]
    exact S
  · obtain ⟨q1, q2, q3, q4, q5⟩ := Q
    refine ⟨by rw [e0, e76 45 (by unfold mSl; omega)]; exact q1, by rw [e0]; exact q2, by rw [e0, e76 46 (by unfold mSl; omega)]; exact q3, by rw [e0, e76 47 (by unfold mSl; omega)]; exact q4, fun hh c hc => ?_⟩
    rw [eh (64 * c + 52) (by unfold hRw; omega), em 1100 (by unfold mRw; omega)]
    exact q5 (by rw [← e0]; exact hh) c hc
  · obtain ⟨v, hv1⟩ := V j x hj hx
    exact ⟨v, mv_fr hv1 (fun b _ _ => by rw [em 1093 (by unfold mRw; omega)])⟩
/-- the states are judged -/
theorem CP_st (H : CP h m n nw k B) (hf : w_fr stP h h') : CP h' m n nw k B :=
  CP_fr H ⟨Nat.le_refl _, H.1.2⟩ (fun z hz => hf z (by unfold hRw at hz; unfold stP; omega)) ⟨by rw [hf 40 (by unfold stP; omega)], by rw [hf 40 (by unfold stP; omega)]⟩ (fun _ _ => rfl) (fun _ _ => rfl) H.2.2.2.2.2.2.2.2.2.2.2.1
/-- needs and states are looked at -/
theorem CP_lk (H : CP h m n nw k B) (hf : w_fr lkP m m') : CP h m' n nw k B :=
  CP_fr H ⟨Nat.le_refl _, H.1.2⟩ (fun _ _ => rfl) ⟨rfl, rfl⟩ (fun q hq => hf q (by unfold mRw at hq; unfold lkP; omega)) (fun b _ => by rw [hf 1076 (by unfold lkP; omega)]) (by
    intro j x hj hx
    obtain ⟨v, hv⟩ := H.2.2.2.2.2.2.2.2.2.2.2.1 j x hj hx
    exact ⟨v, mv_fr hv (fun b _ _ => by rw [hf 1123 (by unfold lkP; omega)])⟩)
end SA2
