/-! ===== tick ===== -/
/-- closed: what hangs together with it, and shows nothing anew, is in it -/
def cld (K : Nat) (bd : Nat → Nat → Bool) (A C : Nat → Bool) : Prop := ∀ v w, v < K → w < K → C v = true → bd v w = true → A w = false → C w = true
/-- reached from f -/
def rch (K : Nat) (bd : Nat → Nat → Bool) (A : Nat → Bool) (f : Nat) (S : Nat → Bool) : Prop := S f = true ∧ (∀ w, S w = true → w < K) ∧ (∀ w, S w = true → w = f ∨ A w = false) ∧ ∀ C, C f = true → cld K bd A C → ∀ w, S w = true → C w = true
section SB3
variable {h h' h1 g m m' m1 : Hp} {n nw k B b c f K : Nat} {lang us x y z x0 x2 : Int32} {bd : Nat → Nat → Bool} {A S S' : Nat → Bool}
theorem rch_uniq (a : rch K bd A f S) (a2 : cld K bd A S) (b : rch K bd A f S') (b2 : cld K bd A S') (w : Nat) : S w = S' w := by
  cases hs : S w with
  | true => exact (a.2.2.2 S' b.1 b2 w hs).symm
  | false =>
    cases hs' : S' w with
    | false => rfl
    | true => rw [b.2.2.2 S a.1 a2 w hs'] at hs; cases hs
theorem rch_add {S : Nat → Bool} (a : rch K bd A f S) {v w : Nat} (hv : S v = true) (hw : w < K) (hb : bd v w = true) (hA : A w = false) (e : ∀ j, S' j = (S j || decide (j = w))) : rch K bd A f S' := by
  refine ⟨by rw [e, a.1]; rfl, fun j hj => ?_, fun j hj => ?_, fun C hC hcl j hj => ?_⟩
  · rw [e, Bool.or_eq_true, decide_eq_true_eq] at hj
    rcases hj with hj | hj
    · exact a.2.1 j hj
    · omega
  · rw [e, Bool.or_eq_true, decide_eq_true_eq] at hj
    rcases hj with hj | hj
    · exact a.2.2.1 j hj
    · subst hj; exact Or.inr hA
  · rw [e, Bool.or_eq_true, decide_eq_true_eq] at hj
    rcases hj with hj | hj
    · exact a.2.2.2 C hC hcl j hj
    · subst hj
      exact hcl v j (a.2.1 v hv) hw (a.2.2.2 C hC hcl v hv) hb hA
theorem bt_add (hw : K < 32) {j : Nat} : bt (x ||| (1 <<< (Int32.ofNat K &&& 31))) j = (bt x j || decide (j = K)) := by
  rw [bt_or, bt_one hw]
/-- what holds while the class spreads -/
def spC (h : Hp) (nw f : Nat) (bd : Nat → Nat → Bool) (A : Nat → Bool) (x : Int32) (g : Hp) : Prop := rch nw bd A f (bt x) ∧ w_fr (fun z => z = 8) h g ∧ ∀ w, g 8 w = if bt x w = true ∧ w ≠ f then v_91 h (Int32.ofNat w) (h 9 f) else h 8 w
theorem c_95i (hw : h 4 7 = Int32.ofNat nw) (h4 : nw ≤ 4) (hf : f < nw) (hbd : ∀ v w, v < nw → w < nw → bt (h 10 w) v = bd v w) (hA : bt x2 f = true) (hg : ∀ w, w < nw → g_91 h (Int32.ofNat w) (h 9 f) = true) {r : Int32} (H : spC h nw f bd (bt x2) x0 g) : ok (w_lp (fun (s : Int32 × Int32 × Hp) => l_95_12 (Int32.ofNat f) x2 r s.1 s.2.1 s.2.2) w_N (x0, 0, g)) (fun e => spC h nw f bd (bt x2) e.1 e.2 ∧ (∀ w, bt x0 w = true → bt e.1 w = true) ∧ ∀ w, w < nw → bt x2 w = false → ∀ v, bt x0 v = true → bd v w = true → bt e.1 w = true) := by
  refine ok_for (fun i s => s.2.1 = Int32.ofNat i ∧ spC h nw f bd (bt x2) s.1 s.2.2 ∧ (∀ w, bt x0 w = true → bt s.1 w = true) ∧ ∀ w, w < i → bt x2 w = false → ∀ v, bt x0 v = true → bd v w = true → bt s.1 w = true) nw ⟨rfl, H, fun _ h => h, fun w hw => absurd hw (Nat.not_lt_zero _)⟩ (by unfold w_N; omega) ?_ ?_
  · rintro i ⟨y, j, q⟩ hi ⟨rfl, ⟨H1, H2, H3⟩, M, D⟩
    have q4 : q 4 = h 4 := H2 4 (by decide)
    have lt1 : Int32.ofNat i < Int32.ofNat nw := (u_lt (by omega) (by omega)).mpr hi
    have q9 : q 9 = h 9 := H2 9 (by decide)
    have q10 : q 10 = h 10 := H2 10 (by decide)
    have q6 : q 6 = h 6 := H2 6 (by decide)
    have q7 : q 7 = h 7 := H2 7 (by decide)
    have e91 : ∀ w z, v_91 q w z = v_91 h w z := fun w z => by unfold v_91 v_88; rw [q4, q6, q7]
    have eg91 : ∀ w z, g_91 q w z = g_91 h w z := fun w z => by unfold g_91 v_88; rw [q4]
    show ok (l_95_12 (Int32.ofNat f) x2 r y (Int32.ofNat i) q) _
    unfold l_95_12
    rw [q4, hw, if_pos lt1, u_has (by omega), bt_or]
    unfold q_95_25
    by_cases c1 : bt x2 i = true
    · rw [c1, Bool.true_or, if_pos (show (if (if true = true then (1 : Int32) else 0) = 0 then (1 : Int32) else 0) = 0 from rfl)]
      refine ok_some ⟨u_S i, ⟨H1, H2, H3⟩, M, fun w hw2 ha => ?_⟩
      by_cases e : w = i
      · subst e; rw [c1] at ha; cases ha
      · exact D w (by omega) ha
    have c1' : bt x2 i = false := by
      cases hh : bt x2 i with
      | false => rfl
      | true => exact absurd hh c1
    by_cases c2 : bt y i = true
    · rw [c2, Bool.or_true, if_pos (show (if (if true = true then (1 : Int32) else 0) = 0 then (1 : Int32) else 0) = 0 from rfl)]
      refine ok_some ⟨u_S i, ⟨H1, H2, H3⟩, M, fun w hw2 ha v hv hb => ?_⟩
      by_cases e : w = i
      · subst e; exact c2
      · exact D w (by omega) ha v hv hb
    have c2' : bt y i = false := by
      cases hh : bt y i with
      | false => rfl
      | true => exact absurd hh c2
    rw [c1', c2', Bool.or_false, if_neg (show ¬ (if (if false = true then (1 : Int32) else 0) = 0 then (1 : Int32) else 0) = 0 by decide)]
    simp (disch := omega) only [u_ix, u_cl, w_gd]
    rw [q10]
    by_cases c3 : h 10 i &&& y = 0
    · rw [if_pos c3]
      refine ok_some ⟨u_S i, ⟨H1, H2, H3⟩, M, fun w hw2 ha v hv hb => ?_⟩
      by_cases e : w = i
      · subst e
        have hv' := M v hv
        have hvn := H1.2.1 v hv'
        have := (bt_0iff.mp c3) v (by omega)
        rw [bt_and, hbd v w hvn hi, hb, hv'] at this
        cases this
      · exact D w (by omega) ha v hv hb
    · rw [if_neg c3, q9, eg91, hg i hi, e91]
      simp only [w_let]
      have hex : ∃ v, bt (h 10 i) v = true ∧ bt y v = true := by
        by_cases hh : ∃ v, bt (h 10 i) v = true ∧ bt y v = true
        · exact hh
        · refine absurd (bt_0iff.mpr (fun j _ => ?_)) c3
          rw [bt_and]
          cases a1 : bt (h 10 i) j with
          | false => rfl
          | true =>
            cases a2 : bt y j with
            | false => rfl
            | true => exact absurd ⟨j, a1, a2⟩ hh
      obtain ⟨v, v1, v2⟩ := hex
      have hvn := H1.2.1 v v2
      rw [hbd v i hvn hi] at v1
      have ba : ∀ j, bt (y ||| (1 <<< (Int32.ofNat i &&& 31))) j = (bt y j || decide (j = i)) := fun j => bt_add (by omega)
      refine ok_some ⟨u_S i, ⟨rch_add H1 v2 hi v1 c1' ba, fun z hz => ?_, fun w => ?_⟩, fun w hw2 => ?_, fun w hw2 ha u hu hb => ?_⟩
      · funext o
        show w_up q 8 i _ z o = h z o
        rw [w_up_q hz]; exact congrFun (H2 z hz) o
      · show w_up q 8 i _ 8 w = _
        by_cases e : w = i
        · subst e
          have hne : w ≠ f := fun e => by rw [e, hA] at c1'; cases c1'
          rw [w_up_at, if_pos ⟨by show bt (y ||| _) w = true; rw [ba, decide_eq_true rfl, Bool.or_true], hne⟩]
        · have h3 : q 8 w = if bt y w = true ∧ w ≠ f then v_91 h (Int32.ofNat w) (h 9 f) else h 8 w := H3 w
          rw [w_up_b e, h3]
          show _ = if bt (y ||| (1 <<< (Int32.ofNat i &&& 31))) w = true ∧ w ≠ f then _ else _
          rw [ba, decide_eq_false e, Bool.or_false]
      · show bt (y ||| (1 <<< (Int32.ofNat i &&& 31))) w = true
        rw [ba, M w hw2]; rfl
      · show bt (y ||| (1 <<< (Int32.ofNat i &&& 31))) w = true
        rw [ba]
        by_cases e : w = i
        · subst e; rw [decide_eq_true rfl, Bool.or_true]
        · rw [D w (by omega) ha u hu hb]; rfl
  · rintro ⟨y, j, q⟩ ⟨rfl, ⟨H1, H2, H3⟩, M, D⟩
    have q4 : q 4 = h 4 := H2 4 (by decide)
    show ok (l_95_12 (Int32.ofNat f) x2 r y (Int32.ofNat nw) q) _
    unfold l_95_12
    rw [q4, hw, if_neg (fun hh => Nat.lt_irrefl _ ((u_lt (by omega) (by omega)).mp hh))]
    exact ok_some ⟨⟨H1, H2, H3⟩, M, D⟩
/-- the class spreads what a widget shows -/
theorem c_95 (hw : h 4 7 = Int32.ofNat nw) (h4 : nw ≤ 4) (hf : f < nw) (hbd : ∀ v w, v < nw → w < nw → bt (h 10 w) v = bd v w) (hA : bt x2 f = true) (hg : ∀ w, w < nw → g_91 h (Int32.ofNat w) (h 9 f) = true) : ∃ R h', p_95 h (Int32.ofNat f) x2 = some (R, h') ∧ cld nw bd (bt x2) (bt R) ∧ spC h nw f bd (bt x2) R h' := by
  have b1 : ∀ j, bt (1 <<< (Int32.ofNat f &&& 31)) j = decide (j = f) := fun j => bt_one (by omega)
  have H0 : spC h nw f bd (bt x2) (1 <<< (Int32.ofNat f &&& 31)) h := by
    refine ⟨⟨by rw [b1]; simp, fun w hw2 => ?_, fun w hw2 => ?_, fun C hC _ w hw2 => ?_⟩, w_fr_refl _ _, fun w => ?_⟩
    · rw [b1, decide_eq_true_eq] at hw2; omega
    · rw [b1, decide_eq_true_eq] at hw2; exact Or.inl hw2
    · rw [b1, decide_eq_true_eq] at hw2; subst hw2; exact hC
    · rw [b1, if_neg (fun hh => hh.2 (of_decide_eq_true hh.1))]
  have key : ok (p_95 h (Int32.ofNat f) x2) (fun e => spC h nw f bd (bt x2) e.1 e.2 ∧ cld nw bd (bt x2) (bt e.1)) := by
    unfold p_95
    refine ok_for (fun i s => s.2.1 = Int32.ofNat i ∧ spC h nw f bd (bt x2) s.1 s.2.2 ∧ (cld nw bd (bt x2) (bt s.1) ∨ cnt (fun w => !bt s.1 w) nw + i + 1 ≤ nw)) nw ⟨rfl, H0, Or.inr ?_⟩ (by unfold w_N; omega) ?_ ?_
    · have h1 := cnt_lt (f := fun w => !bt (1 <<< (Int32.ofNat f &&& 31)) w) (g := fun _ => true) nw (fun _ _ _ => rfl) ⟨f, hf, by rw [b1]; simp, rfl⟩
      have h2 := cnt_le (fun _ => true) nw
      show cnt (fun w => !bt (1 <<< (Int32.ofNat f &&& 31)) w) nw + 0 + 1 ≤ nw
      omega
    · rintro i ⟨y, j, q⟩ hi ⟨rfl, H, D⟩
      have q4 : q 4 = h 4 := H.2.1 4 (by decide)
      have lt1 : Int32.ofNat i < Int32.ofNat nw := (u_lt (by omega) (by omega)).mpr hi
      show ok (l_95_6 (Int32.ofNat f) x2 y (Int32.ofNat i) q) _
      unfold l_95_6
      rw [q4, hw, if_pos lt1]
      refine ok_bind (c_95i hw h4 hf hbd hA hg (r := Int32.ofNat i) H) (fun e he => ok_some ⟨u_S i, he.1, ?_⟩)
      obtain ⟨E, M, C⟩ := he
      show cld nw bd (bt x2) (bt e.1) ∨ cnt (fun w => !bt e.1 w) nw + (i + 1) + 1 ≤ nw
      by_cases same : ∀ w, bt e.1 w = true → bt y w = true
      · left
        intro v w hv hw2 h1 h2 h3
        exact C w hw2 h3 v (same v h1) h2
      · have : ∃ w, bt e.1 w = true ∧ ¬ bt y w = true := by
          by_cases hh : ∃ w, bt e.1 w = true ∧ ¬ bt y w = true
          · exact hh
          · exact absurd (fun w h1 => by
              by_cases h2 : bt y w = true
              · exact h2
              · exact absurd ⟨w, h1, h2⟩ hh) same
        obtain ⟨w, w1, w2⟩ := this
        right
        have hwn := E.1.2.1 w w1
        have w2' : bt y w = false := by
          cases hh : bt y w with
          | false => rfl
          | true => exact absurd hh w2
        have lt2 := cnt_lt (f := fun w => !bt e.1 w) (g := fun w => !bt y w) nw (fun u _ hu => by
          cases hy : bt y u with
          | false => rfl
          | true => rw [M u hy] at hu; cases hu) ⟨w, hwn, by rw [w1]; rfl, by rw [w2']; rfl⟩
        rcases D with D | D
        · have D' : cld nw bd (bt x2) (bt y) := D
          exact absurd (E.1.2.2.2 (bt y) H.1.1 D' w w1) w2
        · have D' : cnt (fun w => !bt y w) nw + i + 1 ≤ nw := D
          omega
    · rintro ⟨y, j, q⟩ ⟨rfl, H, D⟩
      have q4 : q 4 = h 4 := H.2.1 4 (by decide)
      show ok (l_95_6 (Int32.ofNat f) x2 y (Int32.ofNat nw) q) _
      unfold l_95_6
      rw [q4, hw, if_neg (fun hh => Nat.lt_irrefl _ ((u_lt (by omega) (by omega)).mp hh))]
      rcases D with D | D
      · exact ok_some ⟨H, D⟩
      · have D' : cnt (fun w => !bt y w) nw + nw + 1 ≤ nw := D
        omega
  obtain ⟨⟨R, h'⟩, e1, e2, e3⟩ := key
  exact ⟨R, h', e1, e3, e2⟩
/-- what holds while the model spreads -/
def spM (m : Hp) (nw f : Nat) (bd : Nat → Nat → Bool) (A : Nat → Bool) (x : Int32) (g : Hp) : Prop := rch nw bd A f (bt x) ∧ w_fr (fun q => q = 1115 ∨ q = 1119) m g ∧ (∀ w, w < nw → g 1115 w = if bt x w = true ∧ w ≠ f then v_175 m (Int32.ofNat w) (m 1116 f) else m 1115 w) ∧ ∀ w, w < nw → decide (g 1119 w = 0) = (!A w && !bt x w)
theorem d_4 : ∀ k, k < 16 → (Int32.ofNat k / 4 &&& 31) = (Int32.ofNat (k / 4) &&& 31) ∧ Int32.ofNat k - Int32.ofNat k / 4 * 4 = Int32.ofNat (k % 4) := by decide +kernel
theorem m_176i (h4 : nw ≤ 4) (hf : f < nw) (hbd : ∀ v w, v < nw → w < nw → bd v w = !decide (m 1118 (4 * v + w) = 0)) (hb0 : ∀ v w, v < nw → w < 4 → nw ≤ w → m 1118 (4 * v + w) = 0) (hA : A f = true) (hg : ∀ w, w < nw → g_175 m (Int32.ofNat w) (m 1116 f) = true) (H : spM m nw f bd A x0 g) : ok (w_lp (fun (s : Int32 × Int32 × Int32 × Hp) => l_176_12 (Int32.ofNat f) s.1 s.2.1 s.2.2.1 s.2.2.2) w_N (x0, 0, 0, g)) (fun e => spM m nw f bd A e.1 e.2.2 ∧ ((e.2.1 = 0 ∧ cld nw bd A (bt e.1)) ∨ (e.2.1 = 1 ∧ cnt (fun w => !bt e.1 w) nw < cnt (fun w => !bt x0 w) nw))) := by
  have key : ok (w_lp (fun (s : Int32 × Int32 × Int32 × Hp) => l_176_12 (Int32.ofNat f) s.1 s.2.1 s.2.2.1 s.2.2.2) w_N (x0, 0, 0, g)) (fun e => spM m nw f bd A e.1 e.2.2 ∧ (∀ w, bt x0 w = true → bt e.1 w = true) ∧ (∀ j, j < 16 → bt x0 (j / 4) = true → m 1118 j ≠ 0 → A (j % 4) = false → bt e.1 (j % 4) = true) ∧ ((e.2.1 = 0 ∧ ∀ w, bt e.1 w = bt x0 w) ∨ (e.2.1 = 1 ∧ ∃ w, bt e.1 w = true ∧ bt x0 w = false))) := by
    refine ok_for (fun i s => s.2.2.1 = Int32.ofNat i ∧ spM m nw f bd A s.1 s.2.2.2 ∧ (∀ w, bt x0 w = true → bt s.1 w = true) ∧ (∀ j, j < i → bt x0 (j / 4) = true → m 1118 j ≠ 0 → A (j % 4) = false → bt s.1 (j % 4) = true) ∧ ((s.2.1 = 0 ∧ ∀ w, bt s.1 w = bt x0 w) ∨ (s.2.1 = 1 ∧ ∃ w, bt s.1 w = true ∧ bt x0 w = false))) 16 ⟨rfl, H, fun _ h => h, fun w hw => absurd hw (Nat.not_lt_zero _), Or.inl ⟨rfl, fun _ => rfl⟩⟩ (by unfold w_N; omega) ?_ ?_
    · rintro i ⟨y, fl, j, q⟩ hi ⟨rfl, ⟨H1, H2, H3, H5⟩, M, D, F⟩
      obtain ⟨d1, d2⟩ := d_4 i hi
      have lt1 : Int32.ofNat i < 16 := (u_ltL (n := 16) (by omega) (by decide)).mpr hi
      have q18 : q 1118 = m 1118 := H2 1118 (by decide)
      have q16 : q 1116 = m 1116 := H2 1116 (by decide)
      have q13 : q 1113 = m 1113 := H2 1113 (by decide)
      have q14 : q 1114 = m 1114 := H2 1114 (by decide)
      have e175 : ∀ w z, v_175 q w z = v_175 m w z := fun w z => by unfold v_175; rw [q13, q14]
      have eg175 : ∀ w z, g_175 q w z = g_175 m w z := fun w z => by unfold g_175; rw [q13, q14]
      -- nothing happens
      have skip : (bt y (i / 4) = true → m 1118 i ≠ 0 → A (i % 4) = false → bt y (i % 4) = true) → ok (some (.inl (y, fl, (Int32.ofNat i + 1), q)) : Option ((Int32 × Int32 × Int32 × Hp) ⊕ Int32 × Int32 × Hp)) (Sum.elim (fun s => s.2.2.1 = Int32.ofNat (i + 1) ∧ spM m nw f bd A s.1 s.2.2.2 ∧ (∀ w, bt x0 w = true → bt s.1 w = true) ∧ (∀ j, j < i + 1 → bt x0 (j / 4) = true → m 1118 j ≠ 0 → A (j % 4) = false → bt s.1 (j % 4) = true) ∧ ((s.2.1 = 0 ∧ ∀ w, bt s.1 w = bt x0 w) ∨ (s.2.1 = 1 ∧ ∃ w, bt s.1 w = true ∧ bt x0 w = false))) (fun e => spM m nw f bd A e.1 e.2.2 ∧ (∀ w, bt x0 w = true → bt e.1 w = true) ∧ (∀ j, j < 16 → bt x0 (j / 4) = true → m 1118 j ≠ 0 → A (j % 4) = false → bt e.1 (j % 4) = true) ∧ ((e.2.1 = 0 ∧ ∀ w, bt e.1 w = bt x0 w) ∨ (e.2.1 = 1 ∧ ∃ w, bt e.1 w = true ∧ bt x0 w = false)))) := by
        intro hh
        refine ok_some ⟨u_S i, ⟨H1, H2, H3, H5⟩, M, fun j hj a1 a2 a3 => ?_, F⟩
        by_cases e : j = i
        · subst e; exact hh (M _ a1) a2 a3
        · exact D j (by omega) a1 a2 a3
      show ok (l_176_12 (Int32.ofNat f) y fl (Int32.ofNat i) q) _
      unfold l_176_12
      rw [if_pos lt1, d1, d2, bt_shr (by omega)]
      by_cases c1 : bt y (i / 4) = true
      · rw [if_pos c1, if_pos rfl, u_ix (by omega) (by decide), u_cl (by omega), q18]
        simp only [w_gd]
        by_cases c2 : m 1118 i = 0
        · rw [if_pos c2]; exact skip (fun _ h2 => absurd c2 h2)
        · rw [if_neg c2]
          have hv := H1.2.1 _ c1
          have ei : 4 * (i / 4) + i % 4 = i := by omega
          have hw2 : i % 4 < nw := by
            by_cases hh : i % 4 < nw
            · exact hh
            · exact absurd (by rw [← ei]; exact hb0 _ _ hv (by omega) (by omega)) c2
          have hbv : bd (i / 4) (i % 4) = true := by
            rw [hbd _ _ hv hw2, ei, decide_eq_false c2]; rfl
          simp (disch := omega) only [u_ix, u_cl]
          by_cases c3 : q 1119 (i % 4) = 0
          · rw [if_pos c3]
            have h5 := H5 (i % 4) hw2
            rw [decide_eq_true c3] at h5
            have hA2 : A (i % 4) = false := by
              cases hh : A (i % 4) with
              | false => rfl
              | true => rw [hh] at h5; cases h5
            have hy2 : bt y (i % 4) = false := by
              cases hh : bt y (i % 4) with
              | false => rfl
              | true => rw [hh, Bool.not_true, Bool.and_false] at h5; cases h5
            have hne : i % 4 ≠ f := fun e => by rw [e, hA] at hA2; cases hA2
            rw [q16, eg175, hg _ hw2, e175]
            have n52 : j_nar 52 1 = 1 := rfl
            simp only [w_let, n52]
            have ba : ∀ j, bt (y ||| (1 <<< (Int32.ofNat (i % 4) &&& 31))) j = (bt y j || decide (j = i % 4)) := fun j => bt_add (by omega)
            refine ok_some ⟨u_S i, ⟨rch_add H1 c1 hw2 hbv hA2 ba, fun z hz => ?_, fun w hw3 => ?_, fun w hw3 => ?_⟩, fun w hw3 => ?_, fun j hj a1 a2 a3 => ?_, Or.inr ⟨rfl, i % 4, ?_, ?_⟩⟩
            · funext o
              show w_up (w_up q 1115 (i % 4) _) 1119 (i % 4) 1 z o = m z o
              rw [w_up_q (fun e => hz (Or.inr e)), w_up_q (fun e => hz (Or.inl e))]; exact congrFun (H2 z hz) o
            · show w_up (w_up q 1115 (i % 4) _) 1119 (i % 4) 1 1115 w = if bt (y ||| (1 <<< (Int32.ofNat (i % 4) &&& 31))) w = true ∧ w ≠ f then _ else _
              rw [w_up_q (by decide), ba]
              by_cases e : w = i % 4
              · subst e
                rw [w_up_at, if_pos ⟨by simp, hne⟩]
              · have h3 : q 1115 w = if bt y w = true ∧ w ≠ f then v_175 m (Int32.ofNat w) (m 1116 f) else m 1115 w := H3 w hw3
                rw [w_up_b e, h3, decide_eq_false e, Bool.or_false]
            · show decide (w_up (w_up q 1115 (i % 4) _) 1119 (i % 4) 1 1119 w = 0) = (!A w && !bt (y ||| (1 <<< (Int32.ofNat (i % 4) &&& 31))) w)
              rw [ba]
              by_cases e : w = i % 4
              · subst e
                rw [w_up_at, decide_eq_true rfl, Bool.or_true, decide_eq_false no10]; simp
              · rw [w_up_b e, w_up_q (by decide), H5 w hw3, decide_eq_false e, Bool.or_false]
            · show bt (y ||| (1 <<< (Int32.ofNat (i % 4) &&& 31))) w = true
              rw [ba, M w hw3]; rfl
            · show bt (y ||| (1 <<< (Int32.ofNat (i % 4) &&& 31))) (j % 4) = true
              rw [ba]
              by_cases e : j = i
              · subst e; simp
              · rw [D j (by omega) a1 a2 a3]; rfl
            · show bt (y ||| (1 <<< (Int32.ofNat (i % 4) &&& 31))) (i % 4) = true
              rw [ba]; simp
            · cases hh : bt x0 (i % 4) with
              | false => rfl
              | true => rw [M _ hh] at hy2; cases hy2
          · rw [if_neg c3]
            refine skip (fun _ _ hA2 => ?_)
            have h5 := H5 (i % 4) hw2
            rw [decide_eq_false c3, hA2] at h5
            cases hh : bt y (i % 4) with
            | true => rfl
            | false => rw [hh] at h5; cases h5
      · rw [if_neg c1, if_neg (by decide)]
        exact skip (fun h1 => absurd h1 c1)
    · rintro ⟨y, fl, j, q⟩ ⟨rfl, H, M, D, F⟩
      show ok (l_176_12 (Int32.ofNat f) y fl (Int32.ofNat 16) q) _
      unfold l_176_12
      rw [if_neg (by decide)]
      exact ok_some ⟨H, M, D, F⟩
  refine ok_mono key ?_
  rintro ⟨y, fl, q⟩ ⟨H1, M, D, F⟩
  refine ⟨H1, ?_⟩
  rcases F with ⟨F1, F2⟩ | ⟨F1, w, w1, w2⟩
  · refine Or.inl ⟨F1, fun v w hv hw2 h1 h2 h3 => ?_⟩
    have := D (4 * v + w) (by omega) (by rw [show (4 * v + w) / 4 = v by omega]; exact (F2 v).symm.trans h1) (fun e => by rw [hbd v w hv hw2, decide_eq_true e] at h2; cases h2) (by rw [show (4 * v + w) % 4 = w by omega]; exact h3)
    rw [show (4 * v + w) % 4 = w by omega] at this
    exact this
  · refine Or.inr ⟨F1, cnt_lt nw (fun u _ hu => ?_) ⟨w, H1.1.2.1 w w1, by show (!bt y w) = false; rw [w1]; rfl, by rw [w2]; rfl⟩⟩
    cases hy : bt x0 u with
    | false => rfl
    | true =>
      have := M u hy
      have hu' : (!bt y u) = true := hu
      rw [this] at hu'; cases hu'
/-- the model spreads what a widget shows -/
theorem m_176 (h4 : nw ≤ 4) (hf : f < nw) (hbd : ∀ v w, v < nw → w < nw → bd v w = !decide (m 1118 (4 * v + w) = 0)) (hb0 : ∀ v w, v < nw → w < 4 → nw ≤ w → m 1118 (4 * v + w) = 0) (hA : A f = true) (hA2 : ∀ w, w < nw → A w = !decide (m 1119 w = 0)) (hg : ∀ w, w < nw → g_175 m (Int32.ofNat w) (m 1116 f) = true) : ∃ R m', p_176 m (Int32.ofNat f) = some m' ∧ cld nw bd A (bt R) ∧ spM m nw f bd A R m' := by
  have b1 : ∀ j, bt (1 <<< (Int32.ofNat f &&& 31)) j = decide (j = f) := fun j => bt_one (by omega)
  have H0 : spM m nw f bd A (1 <<< (Int32.ofNat f &&& 31)) m := by
    refine ⟨⟨by rw [b1]; simp, fun w hw2 => ?_, fun w hw2 => ?_, fun C hC _ w hw2 => ?_⟩, w_fr_refl _ _, fun w _ => ?_, fun w hw2 => ?_⟩
    · rw [b1, decide_eq_true_eq] at hw2; omega
    · rw [b1, decide_eq_true_eq] at hw2; exact Or.inl hw2
    · rw [b1, decide_eq_true_eq] at hw2; subst hw2; exact hC
    · rw [b1, if_neg (fun hh => hh.2 (of_decide_eq_true hh.1))]
    · rw [b1]
      have := hA2 w hw2
      by_cases e : w = f
      · subst e
        rw [hA] at this ⊢
        have : decide (m 1119 w = 0) = false := by
          cases hh : decide (m 1119 w = 0) with
          | false => rfl
          | true => rw [hh] at this; cases this
        rw [this]; rfl
      · rw [decide_eq_false e, Bool.not_false, Bool.and_true, this, Bool.not_not]
  have key : ok (p_176 m (Int32.ofNat f)) (fun g => ∃ R, cld nw bd A (bt R) ∧ spM m nw f bd A R g) := by
    unfold p_176
    refine ok_wh (fun μ s => spM m nw f bd A s.1 s.2.2 ∧ ((s.2.1 = 0 ∧ cld nw bd A (bt s.1)) ∨ (s.2.1 = 1 ∧ cnt (fun w => !bt s.1 w) nw < μ))) ?_ 10 _ _ ⟨H0, Or.inr ⟨rfl, ?_⟩⟩ (by unfold w_N; omega)
    · rintro μ ⟨y, fl, q⟩ ⟨H, F⟩
      show ok (l_176_6 (Int32.ofNat f) y fl q) _
      unfold l_176_6
      rcases F with ⟨F1, F2⟩ | ⟨F1, F2⟩
      · have F1' : fl = 0 := F1
        rw [if_pos F1']
        exact ok_some ⟨y, F2, H⟩
      · have F1' : fl = 1 := F1
        rw [if_neg (by rw [F1']; decide)]
        refine ok_bind (m_176i h4 hf hbd hb0 hA hg H) (fun e he => ok_some ?_)
        obtain ⟨E, G⟩ := he
        have F2' : cnt (fun w => !bt y w) nw < μ := F2
        rcases G with ⟨G1, G2⟩ | ⟨G1, G2⟩
        · exact ⟨0, by omega, E, Or.inl ⟨G1, G2⟩⟩
        · exact ⟨cnt (fun w => !bt e.1 w) nw + 1, by omega, E, Or.inr ⟨G1, Nat.lt_succ_self _⟩⟩
    · have := cnt_le (fun w => !bt (1 <<< (Int32.ofNat f &&& 31)) w) nw
      show cnt (fun w => !bt (1 <<< (Int32.ofNat f &&& 31)) w) nw < 10
      omega
  obtain ⟨g, e1, R, e2, e3⟩ := key
  exact ⟨R, g, e1, e2, e3⟩
end SB3
