/-! ===== a run, in both ===== -/
/-- what the model reads for the cell's used names does not hang on the cell's own rows -/
def FHx (m : Hp) (c : Nat) (us : Int32) (e : Nat → Option VL) : Prop := ∀ (g : Hp) (how : Int32), ¬ how = 2 → g 1076 2 = m 1076 2 → g 1076 48 = m 1076 48 → g 1083 = m 1083 → g 1084 = m 1084 → g 1085 = m 1085 → g 1112 = m 1112 → g 1115 = m 1115 → (∀ b, b < 234 * c ∨ 234 * c + 234 ≤ b → g 1093 b = m 1093 b) → vld g 1093 → ∃ fe, FH c how fe g ∧ ∀ x, x < 26 → bt us x = true → e x = fe x
/-- what a cell that ran well gave -/
def gave (h m : Hp) (c : Nat) (T : List Int32) (lang : Int32) (V : Nat → Option VL) : Prop := (∀ x, x < 27 → cv h (64 * c + 59) x (V x)) ∧ (∀ x, x < 26 → mv m 1093 (234 * c + 9 * x) (V x)) ∧ mv m 1094 (9 * c) (V 26) ∧ ∀ x, x < 26 → bt ((rdA T lang).2.2.2.2.2.1 ||| (rdA T lang).2.2.2.2.2.2.1) x = true → (V x).isSome = true
/-- what came of a run -/
def outc (h m : Hp) (c : Nat) (T : List Int32) (lang : Int32) : Prop := (h (64 * c + 52) 11 = 0 → m 1092 c = 0 ∧ ∃ V, gave h m c T lang V) ∧ (¬ h (64 * c + 52) 11 = 0 → m 1092 c = 100 * h (64 * c + 52) 11 + h (64 * c + 52) 12)
def hrP (c z : Nat) : Prop := z = 0 ∨ xP z ∨ z = 40 ∨ z = 46 ∨ z = 47 ∨ z = 64 * c + 52 ∨ z = 64 * c + 60 ∨ z = 64 * c + 61 ∨ z = 64 * c + 65 ∨ z = 64 * c + 66 ∨ z = 64 * c + 67 ∨ z = 64 * c + 68 ∨ z = 64 * c + 79 ∨ (64 * c + 80 < z ∧ z < 64 * c + 116)
def mrP (q : Nat) : Prop := q = 1076 ∨ q = 1099 ∨ q = 1127 ∨ evgP 1094 q ∨ (1087 ≤ q ∧ q ≤ 1093) ∨ (1096 ≤ q ∧ q ≤ 1098) ∨ (1100 ≤ q ∧ q ≤ 1105)
/-- the other cells' entries stay -/
def oth (c : Nat) (m m' : Hp) : Prop := (∀ q b, q = 1087 ∨ q = 1088 ∨ q = 1089 ∨ q = 1090 ∨ q = 1092 ∨ q = 1096 ∨ q = 1098 → b ≠ c → m' q b = m q b) ∧ (∀ b, b < 4 * c ∨ 4 * c + 4 ≤ b → m' 1091 b = m 1091 b) ∧ (∀ b, b < 234 * c ∨ 234 * c + 234 ≤ b → m' 1093 b = m 1093 b) ∧ (∀ b, b < 9 * c ∨ 9 * c + 9 ≤ b → m' 1094 b = m 1094 b) ∧ (∀ q b, q = 1095 ∨ q = 1097 → b < 40 * c ∨ 40 * c + 40 ≤ b → m' q b = m q b) ∧ pfr c m m'
def ran (h m h' m' : Hp) (c k nw : Nat) (T : List Int32) (lang : Int32) : Prop :=
  (w_fr (hrP c) h h' ∧ w_fr mrP m m' ∧ oth c m m' ∧ (∀ b, b ≠ 12 → b ≠ 13 → b ≠ 14 → b ≠ 17 → h' 0 b = h 0 b) ∧ (∀ b, b < 8 ∨ b = 10 ∨ 15 < b → h' (64 * c + 52) b = h (64 * c + 52) b) ∧ h' 40 1 = h 40 1 ∧ (∀ b, b ≠ 19 → b ≠ 20 → b ≠ 21 → b ≠ 28 → b ≠ 29 → b ≠ 30 → b ≠ 31 → b ≠ 45 → b ≠ 66 → b ≠ 67 → b ≠ 70 → b ≠ 72 → b ≠ 74 → b ≠ 75 → b ≠ 76 → b ≠ 77 → b ≠ 80 → m' 1076 b = m 1076 b)) ∧
  (h' 40 0 = m' 1076 31 ∧ m' 1076 29 = 0 ∧ (h 0 12 = m 1076 20 → h' 0 12 = m' 1076 20) ∧ (h 0 13 = m 1076 21 → h' 0 13 = m' 1076 21) ∧ h' 0 14 = Int32.ofNat (k + 1) ∧ m' 1076 19 = Int32.ofNat (k + 1) ∧ h' 0 17 = 0 ∧ m' 1076 45 = 0) ∧
  (h' (64 * c + 52) 15 = 1 ∧ h' (64 * c + 52) 14 = Int32.ofNat (k + 1) ∧ h' (64 * c + 52) 13 = h 14 c ∧ m' 1088 c = Int32.ofNat (k + 1) ∧ m' 1089 c = m 1082 c ∧ m' 1090 c = m 1120 c ∧ (∀ w, w < nw → h' (64 * c + 79) w = h 8 w ∧ m' 1091 (4 * c + w) = m 1115 w) ∧ ((h' (64 * c + 52) 11 = 0 ∧ m' 1087 c = 1) ∨ (¬ h' (64 * c + 52) 11 = 0 ∧ m' 1087 c = 2))) ∧
  outc h' m' c T lang ∧ vld m' 1093 ∧ (∃ pc po F, PAST h' m' c lang pc po F) ∧ ∃ D L, drc h' (64 * c + 65) D L ∧ dr1 m' c D L
section S9y
variable {h h' m m' g : Hp} {T D L : List Int32} {c k n nw pc po : Nat} {lang us : Int32} {e : Nat → Option VL} {F : Nat → KEn} {V : Nat → Nat → Option VL}
theorem gvr_ne {x j : Nat} (h16 : gvr h n nw c x = some j) (hc : c < 16) : j ≠ c := by
  unfold gvr at h16
  have hg := (lst_lt _ h16).2
  unfold gvb at hg
  intro e
  subst e
  cases hl : lst (fun k => chh h n x k && (!chh h n x j || decide (k < j))) 16 with
  | none => rw [hl] at hg; simp at hg
  | some l =>
    rw [hl] at hg
    have e2 : j = l := of_decide_eq_true hg
    have := (lst_lt _ hl).2
    rw [← e2] at this
    simp only [Bool.and_eq_true, Bool.or_eq_true, Bool.not_eq_true', decide_eq_true_eq] at this
    obtain ⟨a, b | b⟩ := this
    · rw [a] at b; cases b
    · omega
theorem FHx_of (H : MW h m n nw) (hc : c < n) (hns : nsv h n nw c us) (hsh : ∀ w, w < nw → h 8 w = m 1115 w) (hcp : ∀ x, x < 26 → bt us x = true → ∀ j, j < 16 → gvr h n nw c x = some j → mv m 1093 (234 * j + 9 * x) (V j x)) : FHx m c us (egt V h n nw c us) := by
  intro g how hhow a1 a2 a3 a4 a5 a6 a7 a8 a9
  obtain ⟨w1, w2, w3, w4, w5, w6, w7⟩ := H
  have HG : MW h g n nw := ⟨w1, w2, a1.trans w3, a2.trans w4, fun c hc => by rw [a3, a4, a5]; exact w5 c hc, fun w hw => by rw [a6]; exact w6 w hw, w7⟩
  refine m_FH (m := g) HG hc (Or.inr ⟨hhow, rfl⟩) a9 hns (fun w hw => by rw [a7]; exact hsh w hw) (fun x hx hu j hj hg => ?_)
  have hne := gvr_ne hg (by omega)
  exact mv_fr (hcp x hx hu j hj hg) (fun b h1 h2 => a8 b (by omega))
end S9y
