/-! ===== values are gathered, values are fetched ===== -/
/-- from where the cell c has the name x -/
def gvr (h : Hp) (n nw c x : Nat) : Option Nat := lst (fun j => gvb (dfh h n nw x) (chh h n x) c j) 20
/-- the last one ahead that changes the name -/
def gch (h : Hp) (n c x : Nat) : Option Nat := lst (fun k => chh h n x k && (!chh h n x c || decide (k < c))) 16
/-- what the model's giver answers -/
def rgv (h : Hp) (n nw c x : Nat) : Int32 := match gch h n c x with
  | some k => Int32.ofNat k
  | none => if cnt (dfh h n nw x) 32 = 0 then -1 else if 2 ≤ cnt (dfh h n nw x) 32 then -2 else oi (lst (dfh h n nw x) 20)
/-- what the cell c uses, V the values of the cells -/
def egt (V : Nat → Nat → Option VL) (h : Hp) (n nw c : Nat) (us : Int32) : Nat → Option VL := fun x => if x < 26 ∧ bt us x = true then (match gvr h n nw c x with
  | none => none
  | some j => if j < 16 then V j x else some (.inl (h 8 (j - 16)))) else none
/-- no name that the cell uses is given by several -/
def nsv (h : Hp) (n nw c : Nat) (us : Int32) : Prop := ∀ x, x < 26 → bt us x = true → (∃ k, gch h n c x = some k) ∨ ¬ 2 ≤ cnt (dfh h n nw x) 32
/-- all values of the row q are values -/
def vld (m : Hp) (q : Nat) : Prop := ∀ j x, j < 16 → x < 26 → ∃ v, mv m q (234 * j + 9 * x) v
section S9o
variable {h h' m m' : Hp} {n nw c : Nat}
theorem mv_inj {r o : Nat} {v w : Option VL} (H : mv m r o v) (H' : mv m r o w) : v = w := by
  have n1 : ∀ a, a ≤ 8 → ¬ Int32.ofNat a = -2 := by decide
  have n2 : ∀ a, a ≤ 8 → ¬ Int32.ofNat a = -1 := by decide
  cases v with
  | none =>
    cases w with
    | none => rfl
    | some w =>
      have hH : m r o = -2 := H
      cases w with
      | inl n => have := H'.1; rw [hH] at this; exact absurd this (by decide)
      | inr l => have := H'.2.1; rw [hH] at this; exact absurd this.symm (n1 _ H'.1)
  | some v =>
    cases v with
    | inl n =>
      cases w with
      | none => have hH : m r o = -2 := H'; have := H.1; rw [hH] at this; exact absurd this (by decide)
      | some w =>
        cases w with
        | inl k => rw [← H.2, ← H'.2]
        | inr l => have := H'.2.1; rw [H.1] at this; exact absurd this.symm (n2 _ H'.1)
    | inr l =>
      cases w with
      | none => have hH : m r o = -2 := H'; have := H.2.1; rw [hH] at this; exact absurd this.symm (n1 _ H.1)
      | some w =>
        cases w with
        | inl k => have := H.2.1; rw [H'.1] at this; exact absurd this.symm (n2 _ H.1)
        | inr k =>
          have h1 := H.1; have h2 := H'.1
          have hl : l.length = k.length := (u_inj (by omega) (by omega)).mp (H.2.1.symm.trans H'.2.1)
          have : l = k := by
            apply (list_getD hl).mpr
            intro i hi
            rw [← H.2.2 i hi, ← H'.2.2 i (by omega)]
          rw [this]
theorem m_182r (H : MW h m n nw) {x : Nat} (hc : c < n) (hx : x < 26) : p_182 m (Int32.ofNat c) (Int32.ofNat (97 + x)) = some (rgv h n nw c x) := by
  obtain ⟨r, h1, h2⟩ := m_182 H hc hx
  rw [h1]
  congr 1
  unfold rgv gch
  have h16 := H.1; have h4 := H.2.1
  cases hl : lst (fun k => chh h n x k && (!chh h n x c || decide (k < c))) 16 with
  | some k => rw [hl] at h2; exact h2
  | none =>
    rw [hl] at h2
    simp only at h2 ⊢
    rcases h2 with ⟨rfl, h3⟩ | ⟨rfl, h3⟩ | ⟨i, hi, rfl, h3⟩
    · have : cnt (dfh h n nw x) 32 = 0 := by
        have e : ∀ k, cnt (dfh h n nw x) k = 0 := by
          intro k
          induction k with
          | zero => rfl
          | succ k ih => simp only [cnt, ih, h3 k]; rfl
        exact e 32
      rw [if_pos this]
    · rw [if_neg (by omega), if_pos h3]
    · have e1 : ∀ k, cnt (dfh h n nw x) k = if i < k then 1 else 0 := by
        intro k
        induction k with
        | zero => rfl
        | succ k ih =>
          simp only [cnt, ih, h3 k]
          by_cases e : k = i
          · subst e; simp
          · have : decide (k = i) = false := decide_eq_false e
            rw [this, if_neg (show ¬ (false = true) by decide), Nat.add_zero]
            by_cases hk : i < k
            · rw [if_pos hk, if_pos (by omega)]
            · rw [if_neg hk, if_neg (by omega)]
      have e2 : cnt (dfh h n nw x) 32 = 1 := by rw [e1, if_pos (by omega)]
      have e3 : lst (dfh h n nw x) 20 = some i := by
        cases hl2 : lst (dfh h n nw x) 20 with
        | none =>
          have := lst_none 20 hl2 i hi
          rw [h3 i] at this; simp at this
        | some k =>
          have := (lst_lt 20 hl2).2
          rw [h3 k] at this
          have : k = i := by simpa using this
          rw [this]
      rw [e2, if_neg (by decide), if_neg (by decide), e3]; rfl
/-- the giver, by the class's sets -/
theorem rgv_gvr (h16 : n ≤ 16) (h4 : nw ≤ 4) {x : Nat} (hc : c < n) (hns : (∃ k, gch h n c x = some k) ∨ ¬ 2 ≤ cnt (dfh h n nw x) 32) : (gvr h n nw c x = none ∧ (rgv h n nw c x = -1 ∨ rgv h n nw c x = Int32.ofNat c)) ∨ ∃ j, gvr h n nw c x = some j ∧ rgv h n nw c x = Int32.ofNat j ∧ j ≠ c ∧ (j < n ∨ (16 ≤ j ∧ j < 16 + nw)) := by
  unfold rgv
  cases hg : gch h n c x with
  | some k =>
    right
    obtain ⟨k1, k2⟩ := lst_lt 16 hg
    simp only [Bool.and_eq_true] at k2
    have hkn : k < n := by
      have := k2.1; unfold chh at this
      simp only [Bool.and_eq_true, decide_eq_true_eq] at this; exact this.1
    have hkc : k ≠ c := by
      intro e; subst e
      have := k2.2
      rw [k2.1] at this; simp at this
    refine ⟨k, ?_, rfl, hkc, Or.inl hkn⟩
    unfold gvr
    have e : ∀ j, gvb (dfh h n nw x) (chh h n x) c j = decide (j = k) := by
      intro j
      unfold gvb
      have hg' : lst (fun k => chh h n x k && (!chh h n x c || decide (k < c))) 16 = some k := hg
      rw [hg']
    rw [show (fun j => gvb (dfh h n nw x) (chh h n x) c j) = fun j => decide (j = k) from funext e]
    cases hl2 : lst (fun j => decide (j = k)) 20 with
    | none => have := lst_none 20 hl2 k (by omega); simp at this
    | some i =>
      have := (lst_lt 20 hl2).2
      have : i = k := by simpa using this
      rw [this]
  | none =>
    simp only
    have e : ∀ j, gvb (dfh h n nw x) (chh h n x) c j = (dfh h n nw x j && decide (j ≠ c)) := by
      intro j
      unfold gvb
      have hg' : lst (fun k => chh h n x k && (!chh h n x c || decide (k < c))) 16 = none := hg
      rw [hg']
    have hcnt : ¬ 2 ≤ cnt (dfh h n nw x) 32 := hns.elim (fun ⟨k, hk⟩ => by rw [hg] at hk; cases hk) id
    have hd20 : ∀ j, dfh h n nw x j = true → j < n ∨ (16 ≤ j ∧ j < 16 + nw) := by
      intro j hj
      unfold dfh at hj
      simp only [Bool.or_eq_true, Bool.and_eq_true, decide_eq_true_eq] at hj
      rcases hj with hj | hj
      · exact Or.inl hj.1
      · exact Or.inr ⟨hj.1, hj.2.1⟩
    by_cases h0 : cnt (dfh h n nw x) 32 = 0
    · left
      rw [if_pos h0]
      refine ⟨?_, Or.inl rfl⟩
      unfold gvr
      cases hl2 : lst (fun j => gvb (dfh h n nw x) (chh h n x) c j) 20 with
      | none => rfl
      | some i =>
        obtain ⟨i1, i2⟩ := lst_lt 20 hl2
        rw [e i, cnt_0 32 h0 i (by omega)] at i2
        cases i2
    · rw [if_neg h0, if_neg hcnt]
      cases hl : lst (dfh h n nw x) 20 with
      | none =>
        exfalso
        apply h0
        have ez : ∀ k, cnt (dfh h n nw x) k = 0 := by
          intro k
          induction k with
          | zero => rfl
          | succ k ih =>
            have : dfh h n nw x k = false := by
              by_cases hk : k < 20
              · exact lst_none 20 hl k hk
              · cases hd : dfh h n nw x k with
                | false => rfl
                | true => have := hd20 k hd; omega
            simp only [cnt, ih, this]; rfl
        exact ez 32
      | some i =>
        obtain ⟨i1, i2⟩ := lst_lt 20 hl
        have uniq : ∀ j, dfh h n nw x j = true → j = i := by
          intro j hj
          by_cases hji : j = i
          · exact hji
          · exfalso
            apply hcnt
            have hj20 := hd20 j hj
            rcases Nat.lt_or_gt_of_ne hji with hlt | hlt
            · exact cnt_two 32 hlt (by omega) hj i2
            · exact cnt_two 32 hlt (by omega) i2 hj
        by_cases hic : i = c
        · left
          subst hic
          refine ⟨?_, Or.inr rfl⟩
          unfold gvr
          cases hl2 : lst (fun j => gvb (dfh h n nw x) (chh h n x) i j) 20 with
          | none => rfl
          | some k =>
            obtain ⟨k1, k2⟩ := lst_lt 20 hl2
            rw [e k] at k2
            simp only [Bool.and_eq_true, decide_eq_true_eq] at k2
            exact absurd (uniq k k2.1) k2.2
        · right
          refine ⟨i, ?_, rfl, hic, hd20 i i2⟩
          unfold gvr
          cases hl2 : lst (fun j => gvb (dfh h n nw x) (chh h n x) c j) 20 with
          | none =>
            have := lst_none 20 hl2 i i1
            rw [e i, i2] at this
            simp only [Bool.true_and, decide_eq_false_iff_not] at this
            exact absurd hic this
          | some k =>
            obtain ⟨k1, k2⟩ := lst_lt 20 hl2
            rw [e k] at k2
            simp only [Bool.and_eq_true, decide_eq_true_eq] at k2
            rw [uniq k k2.1]
/-- fetching, by what the giver answers -/
theorem m_194r {r : Int32} {x q : Nat} (hc : c < 16) (hx : x < 26) (hr : p_182 m (Int32.ofNat c) (Int32.ofNat (97 + x)) = some r) (hr2 : r = -1 ∨ r = -2 ∨ ∃ i, i < 20 ∧ r = Int32.ofNat i) (hq : (m 1076 29 = 2 ∧ q = 1123) ∨ (¬ m 1076 29 = 2 ∧ q = 1093)) (hV : vld m q) : ∃ v, (∃ g, p_194 m (Int32.ofNat c) (Int32.ofNat (97 + x)) = some (ofB v.isSome, g) ∧ mv g 1132 0 v ∧ w_fr (fun q => q = 1132) m g) ∧ (r = -1 ∨ r = -2 ∨ r = Int32.ofNat c → v = none) ∧ (∀ i, i < 16 → r = Int32.ofNat i → i ≠ c → mv m q (234 * i + 9 * x) v) ∧ ∀ w, w < 4 → r = Int32.ofNat (16 + w) → v = some (.inl (m 1115 w)) := by
  unfold p_194
  rw [hr]
  simp only [Option.bind_some, w_let]
  have fin : ∀ g : Hp, q_194_57 g = some ((if g 1132 0 = -2 then 0 else 1 : Int32), g) := fun g => rfl
  have fv : ∀ (g : Hp) (v : Option VL), mv g 1132 0 v → (if g 1132 0 = -2 then 0 else 1 : Int32) = ofB v.isSome := by
    intro g v hv
    cases v with
    | none => rw [if_pos (show g 1132 0 = -2 from hv)]; rfl
    | some v =>
      have hne : ¬ g 1132 0 = -2 := by
        cases v with
        | inl n => rw [hv.1]; decide
        | inr l =>
          have : ∀ a, a ≤ 8 → ¬ Int32.ofNat a = -2 := by decide
          rw [hv.2.1]; exact this _ hv.1
      rw [if_neg hne]; rfl
  generalize hm1 : w_up m 1132 0 (-2) = m1
  have m1q : ∀ z, z ≠ 1132 → m1 z = m z := fun z hz => by rw [← hm1]; exact funext fun b => w_up_q hz
  have m1n : mv m1 1132 0 none := by show m1 1132 0 = -2; rw [← hm1]; exact w_up_at
  have nofn : ∀ i : Nat, i < 20 → ¬ Int32.ofNat i = -1 ∧ ¬ Int32.ofNat i = -2 := by decide
  have none_case : (r = -1 ∨ r = -2 ∨ r = Int32.ofNat c) → (if r < 16 then (if r < 0 then q_194_57 m1 else (if r = Int32.ofNat c then q_194_57 m1 else (if m1 1076 29 = 2 then q_194_44 m1 (Int32.ofNat (97 + x)) r 1123 else q_194_44 m1 (Int32.ofNat (97 + x)) r 1093))) else (w_let (w_up m1 1132 0 (-1)) fun hz9 => w_gd (w_ix (r - 16) 4) <| w_let (w_up hz9 1132 1 (hz9 1115 (r - 16).toNatClampNeg)) fun hz11 => q_194_57 hz11)) = some (ofB (none : Option VL).isSome, m1) := by
    intro h
    have e1 : q_194_57 m1 = some (ofB (none : Option VL).isSome, m1) := by rw [fin, fv m1 none m1n]
    rcases h with rfl | rfl | rfl
    · rw [if_pos (by decide), if_pos (by decide)]; exact e1
    · rw [if_pos (by decide), if_pos (by decide)]; exact e1
    · have h16 : Int32.ofNat c < 16 := (u_ltL (by omega) (by decide)).mpr hc
      rw [if_pos h16, if_neg (u_lt0 (by omega)), if_pos rfl]; exact e1
  have mfr : w_fr (fun q => q = 1132) m m1 := fun z hz => m1q z hz
  by_cases hno : r = -1 ∨ r = -2 ∨ r = Int32.ofNat c
  · refine ⟨none, ⟨m1, none_case hno, m1n, mfr⟩, fun _ => rfl, fun i hi h1 h2 => ?_, fun w hw h1 => ?_⟩
    · exfalso
      rcases hno with rfl | rfl | rfl
      · exact (nofn i (by omega)).1 h1.symm
      · exact (nofn i (by omega)).2 h1.symm
      · exact h2 ((u_inj (by omega) (by omega)).mp h1).symm
    · exfalso
      rcases hno with rfl | rfl | rfl
      · exact (nofn (16 + w) (by omega)).1 h1.symm
      · exact (nofn (16 + w) (by omega)).2 h1.symm
      · have := (u_inj (by omega) (by omega)).mp h1
        omega
  · obtain ⟨i, hi, rfl⟩ : ∃ i, i < 20 ∧ r = Int32.ofNat i := hr2.elim (fun h => absurd (Or.inl h) hno) (fun h => h.elim (fun h => absurd (Or.inr (Or.inl h)) hno) id)
    have hic : i ≠ c := fun h => hno (Or.inr (Or.inr (by rw [h])))
    by_cases h16 : i < 16
    · obtain ⟨v, hv⟩ := hV i x h16 hx
      have hlt : Int32.ofNat i < 16 := (u_ltL (by omega) (by decide)).mpr h16
      have hnc : ¬ Int32.ofNat i = Int32.ofNat c := fun h => hic ((u_inj (by omega) (by omega)).mp h)
      have e97 : Int32.ofNat (97 + x) - 97 = Int32.ofNat x := by
        have := u_subL (a := 97 + x) (n := 97) (by omega)
        rw [show 97 + x - 97 = x by omega] at this
        exact this
      have e234 : (234 : Int32) * Int32.ofNat i + 9 * Int32.ofNat x = Int32.ofNat (234 * i + 9 * x) := by
        rw [u_9, show (234 : Int32) = Int32.ofNat 234 from rfl, u_mul, u_add]
      have hqq : q ≠ 1132 ∧ w_len q = 3744 := by
        rcases hq with ⟨-, rfl⟩ | ⟨-, rfl⟩
        · exact ⟨by decide, by decide +kernel⟩
        · exact ⟨by decide, by decide +kernel⟩
      have hv1 : mv m1 q (234 * i + 9 * x) v := mv_fr hv (fun b _ _ => by rw [m1q q hqq.1])
      have cp := m_193 (m := m1) (r := q) (r2 := 1132) (o := 234 * i + 9 * x) (o2 := 0) (by rw [hqq.2]; omega) (by rw [w_len_1132]; omega) (by rw [hqq.2]; omega) (by rw [w_len_1132]; omega) (Or.inl hqq.1)
      have e44 : q_194_44 m1 (Int32.ofNat (97 + x)) (Int32.ofNat i) q = some (ofB v.isSome, w_fi m1 1132 0 9 (fun k => m1 q (234 * i + 9 * x + k))) := by
        unfold q_194_44
        rw [e97, e234, show p_193 m1 q (Int32.ofNat (234 * i + 9 * x)) 1132 0 = _ from cp]
        simp only [Option.bind_some]
        rw [fin, fv _ v (mv_cp hv1)]
      refine ⟨v, ⟨w_fi m1 1132 0 9 (fun k => m1 q (234 * i + 9 * x + k)), ?_, mv_cp hv1, fun z hz => ?_⟩, fun h => absurd h hno, fun j hj h1 _ => ?_, fun w hw h1 => ?_⟩
      · rw [if_pos hlt, if_neg (u_lt0 (by omega)), if_neg hnc]
        rcases hq with ⟨h29, rfl⟩ | ⟨h29, rfl⟩
        · rw [if_pos (by rw [m1q 1076 (by decide)]; exact h29)]; exact e44
        · rw [if_neg (by rw [m1q 1076 (by decide)]; exact h29)]; exact e44
      · rw [← m1q z hz]; exact funext fun b => w_fi_q hz
      · have : i = j := (u_inj (by omega) (by omega)).mp h1
        rw [← this]; exact hv
      · have := (u_inj (a := i) (b := 16 + w) (by omega) (by omega)).mp h1
        omega
    · have hge : ¬ Int32.ofNat i < 16 := fun h => h16 ((u_ltL (by omega) (by decide)).mp h)
      have es : Int32.ofNat i - 16 = Int32.ofNat (i - 16) := u_subL (a := i) (n := 16) (by omega)
      generalize hm2 : w_up (w_up m1 1132 0 (-1)) 1132 1 (m 1115 (i - 16)) = m2
      have hv2 : mv m2 1132 0 (some (.inl (m 1115 (i - 16)))) := by
        rw [← hm2]
        exact ⟨by rw [w_up_b (by decide), w_up_at], w_up_at⟩
      refine ⟨some (.inl (m 1115 (i - 16))), ⟨m2, ?_, hv2, fun z hz => ?_⟩, fun h => absurd h hno, fun j hj h1 _ => ?_, fun w hw h1 => ?_⟩
      · rw [if_neg hge, es, u_ix (by omega) (by decide), u_cl (by omega)]
        simp only [w_gd]
        rw [w_up_q (by decide), m1q 1115 (by decide), hm2, fin, fv m2 _ hv2]
      · rw [← m1q z hz, ← hm2]; exact funext fun b => by rw [w_up_q hz, w_up_q hz]
      · have := (u_inj (a := i) (b := j) (by omega) (by omega)).mp h1
        omega
      · have := (u_inj (a := i) (b := 16 + w) (by omega) (by omega)).mp h1
        rw [this, Nat.add_sub_cancel_left]
end S9o
