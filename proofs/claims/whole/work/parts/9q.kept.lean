/-! ===== values are compared ===== -/
def smv (U W : Nat → Option VL) (n : Nat) : Bool := !anyb (fun x => !decide (U x = W x)) n
def cil : Option VL → List Int32
  | none => []
  | some v => itl v
section S9q
variable {h h' m m' : Hp} {U W : Nat → Option VL}
theorem smv_iff {n : Nat} : smv U W n = true ↔ ∀ x, x < n → U x = W x := by
  unfold smv
  rw [Bool.not_eq_true']
  constructor
  · intro hh x hx
    by_cases e : U x = W x
    · exact e
    · have : anyb (fun x => !decide (U x = W x)) n = true := (anyb_iff n).mpr ⟨x, hx, by simp [e]⟩
      rw [this] at hh; cases hh
  · intro hh
    cases hb : anyb (fun x => !decide (U x = W x)) n with
    | false => rfl
    | true =>
      obtain ⟨x, hx, h2⟩ := (anyb_iff n).mp hb
      rw [hh x hx] at h2; simp at h2
theorem cv_items {q i : Nat} {v : Option VL} (H : cv h q i v) : (cil v).length ≤ 8 ∧ ∀ j, j < (cil v).length → h (q + 2) (i * 8 + j) = (cil v).getD j 0 := by
  cases v with
  | none => exact ⟨Nat.zero_le _, fun j hj => absurd hj (Nat.not_lt_zero j)⟩
  | some v =>
    cases v with
    | inl n =>
      refine ⟨(show 1 ≤ 8 by decide), fun j hj => ?_⟩
      have hj' : j < 1 := hj
      have : j = 0 := by omega
      subst this
      exact H.2
    | inr l => exact ⟨H.1, H.2.2⟩
theorem tag_items {v w : Option VL} (ht : vTag v = vTag w) : (cil v).length = (cil w).length ∧ (v = w ↔ cil v = cil w) := by
  cases v with
  | none =>
    cases w with
    | none => exact ⟨rfl, ⟨fun _ => rfl, fun _ => rfl⟩⟩
    | some w =>
      cases w with
      | inl n => exact absurd ht (by decide : ¬ (0 : Nat) = 1)
      | inr l => have : 0 = l.length + 2 := ht; omega
  | some v =>
    cases v with
    | inl n =>
      cases w with
      | none => exact absurd ht (by decide : ¬ (1 : Nat) = 0)
      | some w =>
        cases w with
        | inl k =>
          refine ⟨rfl, ⟨fun h => by rw [h], fun h => ?_⟩⟩
          have : [n] = [k] := h
          injection this with h1
          rw [h1]
        | inr l => have : 1 = l.length + 2 := ht; omega
    | inr l =>
      cases w with
      | none => have : l.length + 2 = 0 := ht; omega
      | some w =>
        cases w with
        | inl k => have : l.length + 2 = 1 := ht; omega
        | inr k =>
          have : l.length + 2 = k.length + 2 := ht
          refine ⟨by show l.length = k.length; omega, ⟨fun h => by rw [h], fun h => ?_⟩⟩
          have : l = k := h
          rw [this]
theorem c_cnt {q i : Nat} {v : Option VL} (hi : i < 27) (H : cv h q i v) : (if ofB (vNum v) = 0 then Int32.ofNat (vLen v) else 1 : Int32) = Int32.ofNat (cil v).length := by
  cases v with
  | none => rfl
  | some v =>
    cases v with
    | inl n => rw [if_neg (show ¬ ofB (vNum (some (Sum.inl n : VL))) = 0 from (by decide : ¬ ofB true = 0))]; rfl
    | inr l => rw [if_pos (by rfl)]; rfl
theorem c_73 {q0 q1 : Nat} (hU : ∀ i, i < 27 → cv h q0 i (U i)) (hW : ∀ i, i < 27 → cv h q1 i (W i)) : p_73 h q0 q1 = some (ofB (smv U W 27)) := by
  have lp : ok (p_73 h q0 q1) (fun r => r = ofB (smv U W 27)) := by
    unfold p_73
    refine ok_for (fun i s => s = Int32.ofNat i ∧ ∀ x, x < i → U x = W x) 27 ⟨rfl, fun x hx => absurd hx (Nat.not_lt_zero x)⟩ (by decide) ?_ ?_
    · rintro i s hi ⟨rfl, hb⟩
      have hlt : Int32.ofNat i < 27 := (u_ltL (by omega) (by decide)).mpr hi
      obtain ⟨t0, t0l⟩ := cv_tag (hU i hi)
      obtain ⟨t1, t1l⟩ := cv_tag (hW i hi)
      obtain ⟨a1, a2⟩ := c_64 hi (hU i hi)
      obtain ⟨b1, b2⟩ := c_65 hi (hU i hi)
      obtain ⟨l1, l2⟩ := cv_items (hU i hi)
      obtain ⟨k1, k2⟩ := cv_items (hW i hi)
      have no : ¬ U i = W i → ok (some (.inr 0) : Option (Int32 ⊕ Int32)) (Sum.elim (fun s => s = Int32.ofNat (i + 1) ∧ ∀ x, x < i + 1 → U x = W x) (fun r => r = ofB (smv U W 27))) := by
        intro hne
        refine ok_some ?_
        show (0 : Int32) = _
        cases hs : smv U W 27 with
        | false => rfl
        | true => exact absurd (smv_iff.mp hs i hi) hne
      unfold l_73_2
      rw [if_pos hlt, u_ix hi (by decide), u_cl (by omega), t0, t1]
      simp only [w_gd]
      by_cases ht : vTag (U i) = vTag (W i)
      · rw [if_pos (by rw [ht]), a2, a1, b2, b1, ite_self, c_cnt hi (hU i hi)]
        simp only [w_gd]
        obtain ⟨e1, e2⟩ := tag_items ht
        have inner : ok (w_lp (fun (s : Int32) => l_73_28 h q0 q1 (Int32.ofNat i) (Int32.ofNat (cil (U i)).length) s) w_N 0) (fun r => (cil (U i) = cil (W i) ∧ r = .inl ()) ∨ (¬ cil (U i) = cil (W i) ∧ r = .inr 0)) := by
          refine ok_for (fun j s => s = Int32.ofNat j ∧ ∀ x, x < j → (cil (U i)).getD x 0 = (cil (W i)).getD x 0) (cil (U i)).length ⟨rfl, fun x hx => absurd hx (Nat.not_lt_zero x)⟩ (by unfold w_N; omega) ?_ ?_
          · rintro j s hj ⟨rfl, hjb⟩
            have hlt2 : Int32.ofNat j < Int32.ofNat (cil (U i)).length := (u_lt (by omega) (by omega)).mpr hj
            obtain ⟨f1, f2⟩ := c_66 (h := h) (q := q0) (i := i) (k := j) hi (by omega)
            obtain ⟨f3, f4⟩ := c_66 (h := h) (q := q1) (i := i) (k := j) hi (by omega)
            unfold l_73_28
            rw [if_pos hlt2, f2, f4, f1, f3, l2 j hj, k2 j (by omega)]
            simp only [w_gd]
            by_cases ej : (cil (U i)).getD j 0 = (cil (W i)).getD j 0
            · rw [if_pos ej, u_S]
              refine ok_some ⟨rfl, fun x hx => ?_⟩
              by_cases exj : x = j
              · subst exj; exact ej
              · exact hjb x (by omega)
            · rw [if_neg ej]
              exact ok_some (Or.inr ⟨fun h => ej (by rw [h]), rfl⟩)
          · rintro s ⟨rfl, hjb⟩
            have hlt2 : ¬ Int32.ofNat (cil (U i)).length < Int32.ofNat (cil (U i)).length := fun e => by have := (u_lt (by omega) (by omega)).mp e; omega
            unfold l_73_28
            rw [if_neg hlt2]
            exact ok_some (Or.inl ⟨(list_getD e1).mpr hjb, rfl⟩)
        obtain ⟨r, r1, r2⟩ := inner
        unfold q_73_25
        rw [r1]
        rcases r2 with ⟨r2, rfl⟩ | ⟨r2, rfl⟩
        · simp only [Option.bind_some, Sum.elim_inl, u_S]
          refine ok_some ⟨rfl, fun x hx => ?_⟩
          by_cases exi : x = i
          · subst exi; exact e2.mpr r2
          · exact hb x (by omega)
        · simp only [Option.bind_some, Sum.elim_inr]
          exact no (fun h => r2 (e2.mp h))
      · rw [if_neg (fun h => ht ((u_inj (by omega) (by omega)).mp h))]
        exact no (fun h => ht (by rw [h]))
    · rintro s ⟨rfl, hb⟩
      unfold l_73_2
      rw [if_neg (show ¬ Int32.ofNat 27 < 27 by decide)]
      refine ok_some ?_
      show (1 : Int32) = _
      rw [smv_iff.mpr hb]; rfl
  obtain ⟨r, h1, h2⟩ := lp
  rw [h1, h2]
/-- the class: a kept run is of this text and these values -/
theorem c_14 {q0 q1 q2 : Nat} {D T : List Int32} (hD : tx h (q0 + 1) D) (hT : tx h q1 T) (hU : ∀ i, i < 27 → cv h (q0 + 3) i (U i)) (hW : ∀ i, i < 27 → cv h q2 i (W i)) : p_14 h q0 q1 q2 = some (ofB (decide (D = T) && smv U W 27)) := by
  unfold p_14
  rw [s_60 hD hT]
  simp only [Option.bind_some]
  by_cases e : D = T
  · rw [decide_eq_true e, if_neg (by decide), c_73 hU hW]
    simp only [Option.bind_some, Bool.true_and]
    cases smv U W 27 <;> rfl
  · rw [decide_eq_false e, if_pos (by rfl), Bool.false_and]; rfl
/-! the model -/
def mtg : VL → Int32
  | .inl _ => -1
  | .inr l => Int32.ofNat l.length
theorem mv_tag {r o : Nat} {v : VL} (H : mv m r o (some v)) : m r o = mtg v := by
  cases v with
  | inl n => exact H.1
  | inr l => exact H.2.1
theorem mv_items {r o : Nat} {v : VL} (H : mv m r o (some v)) : (itl v).length ≤ 8 ∧ ∀ j, j < (itl v).length → m r (o + 1 + j) = (itl v).getD j 0 := by
  cases v with
  | inl n =>
    refine ⟨(show 1 ≤ 8 by decide), fun j hj => ?_⟩
    have hj' : j < 1 := hj
    have : j = 0 := by omega
    subst this
    exact H.2
  | inr l => exact ⟨H.1, H.2.2⟩
theorem mtg_items {v w : VL} (hv : (itl v).length ≤ 8) (hw : (itl w).length ≤ 8) (ht : mtg v = mtg w) : (itl v).length = (itl w).length ∧ (v = w ↔ itl v = itl w) := by
  cases v with
  | inl n =>
    cases w with
    | inl k =>
      refine ⟨rfl, ⟨fun h => by rw [h], fun h => ?_⟩⟩
      have : [n] = [k] := h
      injection this with h1
      rw [h1]
    | inr l =>
      have hw' : l.length ≤ 8 := hw
      exact absurd (show Int32.ofNat l.length = -1 from ht.symm) (u_m1 (by omega))
  | inr l =>
    have hv' : l.length ≤ 8 := hv
    cases w with
    | inl k => exact absurd (show Int32.ofNat l.length = -1 from ht) (u_m1 (by omega))
    | inr k =>
      have hw' : k.length ≤ 8 := hw
      have : l.length = k.length := (u_inj (by omega) (by omega)).mp ht
      refine ⟨this, ⟨fun h => by rw [h], fun h => ?_⟩⟩
      have : l = k := h
      rw [this]
theorem u_234 {a b : Nat} : Int32.ofNat a + (9 : Int32) * Int32.ofNat b = Int32.ofNat (a + 9 * b) := by rw [u_9, u_add]
/-- one name's values are compared -/
theorem m_218i {r o i : Nat} {v w : VL} {x1 : Int32} (hv : mv m 1132 0 (some v)) (hw : mv m r (o + 9 * i) (some w)) (hr : o + 9 * i + 9 ≤ w_len r) (hb : w_len r ≤ 100000) : w_lp (fun (s : Int32 × Int32) => l_218_44 m x1 r (Int32.ofNat o) (Int32.ofNat i) s.1 s.2) w_N (if m 1132 0 = m r (o + 9 * i) then 1 else 0, 1) = some (ofB (decide (v = w))) := by
  obtain ⟨l1, l2⟩ := mv_items hv
  obtain ⟨k1, k2⟩ := mv_items hw
  have t0 := mv_tag hv
  have t1 := mv_tag hw
  rw [t0, t1]
  have hcnt : (if m 1132 0 = -1 then 1 else m 1132 0 : Int32) = Int32.ofNat (itl v).length := by
    rw [t0]
    cases v with
    | inl n => rw [if_pos (show mtg (.inl n) = -1 from rfl)]; rfl
    | inr l =>
      have : (itl (.inr l)).length = l.length := rfl
      have h8 : l.length ≤ 8 := l1
      rw [if_neg (show ¬ mtg (.inr l) = -1 from u_m1 (by omega))]; rfl
  have lp : ok (w_lp (fun (s : Int32 × Int32) => l_218_44 m x1 r (Int32.ofNat o) (Int32.ofNat i) s.1 s.2) w_N (if mtg v = mtg w then 1 else 0, 1)) (fun z => z = ofB (decide (v = w))) := by
    refine ok_for (fun j s => s.2 = Int32.ofNat (j + 1) ∧ ∃ b : Bool, s.1 = ofB b ∧ (b = true ↔ mtg v = mtg w ∧ ∀ x, x < j → x < (itl v).length → (itl v).getD x 0 = (itl w).getD x 0)) 8 ⟨rfl, decide (mtg v = mtg w), by
      by_cases e : mtg v = mtg w
      · rw [if_pos e, decide_eq_true e]; rfl
      · rw [if_neg e, decide_eq_false e]; rfl, by
      rw [decide_eq_true_iff]
      exact ⟨fun h => ⟨h, fun x hx => absurd hx (Nat.not_lt_zero x)⟩, fun h => h.1⟩⟩ (by decide) ?_ ?_
    · rintro j ⟨z, j'⟩ hj ⟨e, b, hz, hb2⟩
      simp only at e hz
      subst e; subst hz
      have hlt : Int32.ofNat (j + 1) < 9 := (u_ltL (by omega) (by decide)).mpr (by show j + 1 < 9; omega)
      show ok (l_218_44 m x1 r (Int32.ofNat o) (Int32.ofNat i) (ofB b) (Int32.ofNat (j + 1))) _
      unfold l_218_44
      rw [if_pos hlt]
      cases b with
      | false =>
        rw [if_pos (by rfl)]
        refine ok_some ?_
        have hne : ¬ v = w := fun h => by
          have := hb2.mpr ⟨by rw [h], fun x _ _ => by rw [h]⟩
          cases this
        show ofB false = _
        rw [decide_eq_false hne]
      | true =>
        obtain ⟨ht, hj2⟩ := hb2.mp rfl
        obtain ⟨e1, e2⟩ := mtg_items l1 k1 ht
        rw [if_neg (by decide), hcnt]
        unfold q_218_62
        have ea : Int32.ofNat o + 9 * Int32.ofNat i + Int32.ofNat (j + 1) = Int32.ofNat (o + 9 * i + (j + 1)) := by rw [u_234, u_add]
        have hle : (Int32.ofNat (j + 1) ≤ Int32.ofNat (itl v).length) ↔ j < (itl v).length := by
          rw [u_le (by omega) (by omega)]; exact Nat.succ_le_iff
        rw [ea, u_S]
        by_cases hjl : j < (itl v).length
        · rw [if_pos (hle.mpr hjl), if_pos (hle.mpr hjl), u_ix (by omega) (by decide), u_ix (by omega) (by omega), u_cl (by omega), u_cl (by omega)]
          have f1 : m 1132 (j + 1) = (itl v).getD j 0 := by
            have := l2 j hjl
            rw [show 0 + 1 + j = j + 1 by omega] at this; exact this
          have f2 : m r (o + 9 * i + (j + 1)) = (itl w).getD j 0 := by
            have := k2 j (by omega)
            rw [show o + 9 * i + 1 + j = o + 9 * i + (j + 1) by omega] at this; exact this
          rw [f1, f2]
          simp only [Bool.and_self, w_gd]
          refine ok_some ⟨rfl, decide ((itl v).getD j 0 = (itl w).getD j 0), ?_, ?_⟩
          · by_cases ej : (itl v).getD j 0 = (itl w).getD j 0
            · rw [if_pos ej, decide_eq_true ej]; rfl
            · rw [if_neg ej, decide_eq_false ej]; rfl
          · rw [decide_eq_true_iff]
            constructor
            · intro ej
              refine ⟨ht, fun x hx hxl => ?_⟩
              by_cases exj : x = j
              · subst exj; exact ej
              · exact hj2 x (by omega) hxl
            · rintro ⟨-, h2⟩; exact h2 j (by omega) hjl
        · rw [if_neg (fun h => hjl (hle.mp h)), if_neg (fun h => hjl (hle.mp h))]
          simp only [w_gd]
          refine ok_some ⟨rfl, true, rfl, ?_⟩
          simp only [true_iff]
          exact ⟨ht, fun x hx hxl => hj2 x (by omega) hxl⟩
    · rintro ⟨z, j'⟩ ⟨e, b, hz, hb2⟩
      simp only at e hz
      subst e; subst hz
      show ok (l_218_44 m x1 r (Int32.ofNat o) (Int32.ofNat i) (ofB b) (Int32.ofNat (8 + 1))) _
      unfold l_218_44
      rw [if_neg (show ¬ Int32.ofNat (8 + 1) < 9 by decide)]
      refine ok_some ?_
      have : b = decide (v = w) := by
        by_cases e : v = w
        · have := hb2.mpr ⟨by rw [e], fun x _ _ => by rw [e]⟩
          rw [this, decide_eq_true e]
        · cases b with
          | false => rw [decide_eq_false e]
          | true =>
            obtain ⟨ht, hj2⟩ := hb2.mp rfl
            obtain ⟨e1, e2⟩ := mtg_items l1 k1 ht
            exact absurd (e2.mpr ((list_getD e1).mpr (fun x hx => hj2 x (by omega) hx))) e
      show ofB b = _
      rw [this]
  obtain ⟨z, h1, h2⟩ := lp
  rw [h1, h2]
/-- the model: the values of names that a cell uses are those of a place -/
theorem m_218 {c r o : Nat} {us : Int32} {fe : Nat → Option VL} (hc : c < 16) (hus : m 1085 c = us) (hF : FH c 0 fe m) (h29 : m 1076 29 = 0) (hr : o + 234 ≤ w_len r) (hb : w_len r ≤ 100000) (hrn : r ≠ 1132) (hU : ∀ x, x < 26 → bt us x = true → mv m r (o + 9 * x) (U x) ∧ (U x).isSome = true) : ∃ m', p_218 m (Int32.ofNat c) r (Int32.ofNat o) = some (ofB (!anyb (fun x => bt us x && !decide (fe x = U x)) 26), m') ∧ w_fr (fun q => q = 1132) m m' := by
  have lp : ok (p_218 m (Int32.ofNat c) r (Int32.ofNat o)) (fun z => z.1 = ofB (!anyb (fun x => bt us x && !decide (fe x = U x)) 26) ∧ w_fr (fun q => q = 1132) m z.2) := by
    unfold p_218
    refine ok_for (fun i s => s.2.1 = Int32.ofNat i ∧ s.1 = ofB (!anyb (fun x => bt us x && !decide (fe x = U x)) i) ∧ w_fr (fun q => q = 1132) m s.2.2) 26 ⟨rfl, rfl, w_fr_refl _ _⟩ (by decide) ?_ ?_
    · rintro i ⟨z, i', g⟩ hi ⟨e1, e2, hf⟩
      simp only at e1 e2 hf
      subst e1; subst e2
      have hlt : Int32.ofNat i < 26 := (u_ltL (by omega) (by decide)).mpr hi
      have gus : g 1085 c = us := by rw [hf 1085 (by decide)]; exact hus
      show ok (l_218_4 (Int32.ofNat c) r (Int32.ofNat o) (ofB (!anyb (fun x => bt us x && !decide (fe x = U x)) i)) (Int32.ofNat i) g) _
      unfold l_218_4
      rw [if_pos hlt]
      cases hb0 : anyb (fun x => bt us x && !decide (fe x = U x)) i with
      | true =>
        rw [if_pos (by rfl)]
        refine ok_gd rfl (ok_some ⟨?_, hf⟩)
        have : anyb (fun x => bt us x && !decide (fe x = U x)) 26 = true := by
          obtain ⟨x, hx, h2⟩ := (anyb_iff i).mp hb0
          exact (anyb_iff 26).mpr ⟨x, by omega, h2⟩
        show ofB (!true) = _
        rw [this]
      | false =>
        rw [if_neg (by decide), u_ix hc (by decide), u_cl (by omega), gus, bt_shr (by omega)]
        simp only [w_gd]
        have nxt1 : anyb (fun x => bt us x && !decide (fe x = U x)) (i + 1) = (bt us i && !decide (fe i = U i)) := by
          show (anyb (fun x => bt us x && !decide (fe x = U x)) i || (bt us i && !decide (fe i = U i))) = _
          rw [hb0, Bool.false_or]
        by_cases hu : bt us i = true
        · rw [if_pos (by rw [if_pos hu])]
          obtain ⟨hUi, hUs⟩ := hU i hi hu
          have gr : ∀ q, q ≠ 1132 → g q = m q := fun q hq => hf q hq
          obtain ⟨g2, b1, b2, b3⟩ := hF g (by rw [gr 1076 (by decide)]) (by rw [gr 1076 (by decide)]) (by rw [gr 1076 (by decide)]; exact h29) (gr _ (by decide)) (gr _ (by decide)) (gr _ (by decide)) (gr _ (by decide)) (gr _ (by decide)) (gr _ (by decide)) (gr _ (by decide)) i hi
          have e97 : (97 : Int32) + Int32.ofNat i = Int32.ofNat (97 + i) := by
            rw [show (97 : Int32) = Int32.ofNat 97 from rfl, u_add]
          rw [e97, b1, u_234, u_ix (by omega) (by omega), u_cl (by omega)]
          simp only [Option.bind_some, ite_self, w_gd]
          have hUg : mv g2 r (o + 9 * i) (U i) := mv_fr hUi (fun b _ _ => by rw [b3 r hrn, gr r hrn])
          obtain ⟨w, ew⟩ := Option.isSome_iff_exists.mp hUs
          rw [ew] at hUg
          have hf2 := w_fr_trans hf b3
          unfold q_218_41
          cases hfe : fe i with
          | none =>
            have : w_lp (fun (s : Int32 × Int32) => l_218_44 g2 (Int32.ofNat c) r (Int32.ofNat o) (Int32.ofNat i) s.1 s.2) w_N (0, 1) = some 0 := by
              refine u_once (by decide) ?_
              show l_218_44 g2 (Int32.ofNat c) r (Int32.ofNat o) (Int32.ofNat i) 0 1 = _
              unfold l_218_44
              rw [if_pos (by decide), if_pos rfl]
            rw [if_pos (by rfl), this]
            simp only [Option.bind_some, u_S]
            refine ok_some ⟨rfl, ?_, hf2⟩
            show (0 : Int32) = ofB (!anyb (fun x => bt us x && !decide (fe x = U x)) (i + 1))
            rw [nxt1, hu, hfe, ew]; rfl
          | some v =>
            rw [hfe] at b2
            rw [if_neg (show ¬ ofB (some v).isSome = 0 from (by decide : ¬ ofB true = 0)), m_218i b2 hUg (by omega) hb]
            simp only [Option.bind_some, u_S]
            refine ok_some ⟨rfl, ?_, hf2⟩
            show ofB (decide (v = w)) = ofB (!anyb (fun x => bt us x && !decide (fe x = U x)) (i + 1))
            rw [nxt1, hu, hfe, ew, Bool.true_and, Bool.not_not]
            congr 1
            by_cases e : v = w
            · rw [decide_eq_true e, decide_eq_true (by rw [e])]
            · rw [decide_eq_false e, decide_eq_false (fun h => e (Option.some.inj h))]
        · rw [if_neg (by rw [if_neg hu]; decide), u_S]
          refine ok_some ⟨rfl, ?_, hf⟩
          have hu' : bt us i = false := by simpa using hu
          show ofB (!false) = ofB (!anyb (fun x => bt us x && !decide (fe x = U x)) (i + 1))
          rw [nxt1, hu', Bool.false_and]
    · rintro ⟨z, i', g⟩ ⟨e1, e2, hf⟩
      simp only at e1 e2 hf
      subst e1; subst e2
      show ok (l_218_4 (Int32.ofNat c) r (Int32.ofNat o) (ofB (!anyb (fun x => bt us x && !decide (fe x = U x)) 26)) (Int32.ofNat 26) g) _
      unfold l_218_4
      rw [if_neg (show ¬ Int32.ofNat 26 < 26 by decide)]
      refine ok_gd ?_ (ok_some ⟨rfl, hf⟩)
      cases anyb (fun x => bt us x && !decide (fe x = U x)) 26 <;> rfl
  obtain ⟨⟨z, m'⟩, h1, h2, h3⟩ := lp
  simp only at h2 h3
  subst h2
  exact ⟨m', h1, h3⟩
end S9q
