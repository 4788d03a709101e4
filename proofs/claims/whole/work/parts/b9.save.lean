/-! ===== checkpoint: what is kept ===== -/
section SB9
variable {h h' h1 g m m' m1 p : Hp} {n nw k k' B B' b c i l : Nat} {T : List Int32} {lang us x y z : Int32} {s : Nat → Int32}
theorem lst_ex {f : Nat → Bool} {i : Nat} (hi : i < n) (hf : f i = true) : ∃ j, lst f n = some j := by
  cases hl : lst f n with
  | some j => exact ⟨j, rfl⟩
  | none => rw [lst_none n hl i hi] at hf; cases hf
theorem gvr_ex {x : Nat} (hi : i < 20) (hh : (dfh h n nw x i = true ∧ i ≠ c) ∨ (i < 16 ∧ chh h n x i = true ∧ (¬ chh h n x c = true ∨ i < c))) : ∃ j, gvr h n nw c x = some j := by
  unfold gvr
  cases hl : lst (fun k => chh h n x k && (!chh h n x c || decide (k < c))) 16 with
  | some l =>
    have := (lst_lt 16 hl).1
    refine lst_ex (i := l) (by omega) ?_
    unfold gvb
    rw [hl]; simp
  | none =>
    rcases hh with ⟨h1, h2⟩ | ⟨h1, h2, h3⟩
    · refine lst_ex (i := i) hi ?_
      unfold gvb
      rw [hl, h1, decide_eq_true h2]; rfl
    · have := lst_none 16 hl i h1
      rw [h2] at this
      exfalso
      rcases h3 with h3 | h3
      · have e : chh h n x c = false := by
          cases hh : chh h n x c with
          | false => rfl
          | true => exact absurd hh h3
        rw [e] at this; cases this
      · rw [decide_eq_true h3, Bool.or_true] at this; cases this
/-- what FRESH cells gave, and that they gave what they define and change -/
theorem fr_gave2 (H : CP h m n nw k B) (hs : isSt n (ndc h n nw) (twh h n nw 26) (own h n nw) s) : ∃ V : Nat → Nat → Option VL, ∀ j, j < n → s j = 0 → (∀ x, x < 27 → cv h (64 * j + 59) x (V j x)) ∧ (∀ x, x < 26 → mv m 1093 (234 * j + 9 * x) (V j x)) ∧ mv m 1094 (9 * j) (V j 26) ∧ ∀ x, x < 26 → bt (h (64 * j + 55) 5 ||| h (64 * j + 55) 6) x = true → (V j x).isSome = true := by
  have : ∀ j, ∃ v : Nat → Option VL, j < n → s j = 0 → (∀ x, x < 27 → cv h (64 * j + 59) x (v x)) ∧ (∀ x, x < 26 → mv m 1093 (234 * j + 9 * x) (v x)) ∧ mv m 1094 (9 * j) (v 26) ∧ ∀ x, x < 26 → bt (h (64 * j + 55) 5 ||| h (64 * j + 55) 6) x = true → (v x).isSome = true := by
    intro j
    by_cases hj : j < n ∧ s j = 0
    · obtain ⟨o1, o2⟩ := own0 (st0 hs hj.1 hj.2).1
      obtain ⟨T, C, O⟩ := H.2.2.2.2.2.2.2.2.2.1 j hj.1
      obtain ⟨-, V, g1, g2, g3, g4⟩ := (O o1).1 o2
      have e5 : h (64 * j + 55) 5 = (rdA T (m 1081 j)).2.2.2.2.2.1 := C.2.2.2.1.2.2.2.2.1
      have e6 : h (64 * j + 55) 6 = (rdA T (m 1081 j)).2.2.2.2.2.2.1 := C.2.2.2.1.2.2.2.2.2.1
      exact ⟨V, fun _ _ => ⟨g1, g2, g3, fun x hx hb => g4 x hx (by rw [← e5, ← e6]; exact hb)⟩⟩
    · exact ⟨fun _ => none, fun a b => absurd ⟨a, b⟩ hj⟩
  exact Classical.axiomOfChoice this
/-- all that a FRESH cell needs is FRESH, and was not run since; its needs are as then -/
theorem fresh_at (hs : isSt n (ndc h n nw) (twh h n nw 26) (own h n nw) s) (hc : c < n) (h0 : s c = 0) : ¬ h (64 * c + 52) 15 = 0 ∧ h (64 * c + 52) 11 = 0 ∧ h 14 c = h (64 * c + 52) 13 ∧ (∀ j, j < n → ndc h n nw c j = true → s j = 0 ∧ ¬ h (64 * c + 52) 14 < h (64 * j + 52) 14) ∧ ¬ twh h n nw 26 c = true := by
  obtain ⟨o, t1, t2⟩ := st0 hs hc h0
  obtain ⟨o1, o2⟩ := own0 o
  have e := hs c hc
  rw [h0] at e
  unfold stp at e
  rw [if_neg t1, if_neg t2] at e
  have n2 : ¬ ∃ j, j < n ∧ ndc h n nw c j = true ∧ 2 ≤ s j := fun hh => by rw [if_pos hh] at e; exact absurd e (by decide)
  rw [if_neg n2] at e
  have n1 : ¬ ∃ j, j < n ∧ ndc h n nw c j = true ∧ s j = 1 := fun hh => by rw [if_pos hh] at e; exact absurd e (by decide)
  have a1 : ¬ anyb (fun k => ndc h n nw c k && decide (h (64 * c + 52) 14 < h (64 * k + 52) 14)) n = true := fun hh => by
    unfold own at o
    rw [if_pos hh] at o; exact absurd o (by decide)
  have a2 : asT h nw (64 * c + 52) (h 14 c) = true := by
    by_cases hh : asT h nw (64 * c + 52) (h 14 c) = true
    · exact hh
    · unfold own at o
      rw [if_neg a1, if_neg hh] at o; exact absurd o (by decide)
  refine ⟨o1, o2, ?_, fun j hj hd => ⟨?_, fun hlt => a1 ((anyb_iff n).mpr ⟨j, hj, by rw [hd, decide_eq_true hlt]; rfl⟩)⟩, t1⟩
  · unfold asT at a2
    simp only [Bool.and_eq_true, decide_eq_true_eq] at a2
    exact a2.2.1
  · rcases st_3 (fun c => own_3) hs j hj with h | h | h
    · exact h
    · exact absurd ⟨j, hj, hd, h⟩ n1
    · exact absurd ⟨j, hj, hd, h⟩ n2
/-- a FRESH cell has a value of each name that it uses -/
theorem fr_some (H : CP h m n nw k B) (hs : isSt n (ndc h n nw) (twh h n nw 26) (own h n nw) s) {V : Nat → Nat → Option VL} (hV : ∀ j, j < n → s j = 0 → ∀ x, x < 26 → bt (h (64 * j + 55) 5 ||| h (64 * j + 55) 6) x = true → (V j x).isSome = true) (hc : c < n) (h0 : s c = 0) (hus : h (64 * c + 55) 7 = us) {x : Nat} (hx : x < 26) (hu : bt us x = true) : (egt V h n nw c us x).isSome = true := by
  have h16 := H.2.1.1
  have h4 := H.2.1.2.2.2.1
  obtain ⟨a1, a2, a3, a4, a5⟩ := fresh_at hs hc h0
  have ex : ∃ j, gvr h n nw c x = some j := by
    rcases H.2.2.2.2.2.2.2.2.2.2.2.2 c hc a1 a2 x hx (by rw [hus]; exact hu) with ⟨w, w1, w2⟩ | ⟨j, j1, j2, j3, j4⟩
    · refine gvr_ex (i := 16 + w) (by omega) (Or.inl ⟨?_, by omega⟩)
      unfold dfh
      rw [show 16 + w - 16 = w by omega, decide_eq_true w2, decide_eq_true (show 16 ≤ 16 + w by omega), decide_eq_true (show 16 + w < 16 + nw by omega)]
      simp
    · rw [← a3, (H.2.1.2.2.2.2.2.2.2.1 c hc).1 j (by omega)] at j3
      have hd : ndc h n nw c j = true := by unfold ndc; rw [j3, decide_eq_true (show j < 16 by omega)]; rfl
      obtain ⟨b1, b2⟩ := a4 j j1 hd
      obtain ⟨o1, -⟩ := own0 (st0 hs j1 b1).1
      rcases j4 with q | q | q | ⟨q1, q2⟩
      · exact absurd q o1
      · exact absurd q b2
      · refine gvr_ex (i := j) (by omega) (Or.inl ⟨?_, j2⟩)
        unfold dfh
        rw [decide_eq_true j1, q]; rfl
      · refine gvr_ex (i := j) (by omega) (Or.inr ⟨by omega, ?_, ?_⟩)
        · unfold chh; rw [decide_eq_true j1, q1]; rfl
        · rcases q2 with q2 | q2
          · refine Or.inl (fun hh => q2 ?_)
            unfold chh at hh
            rw [decide_eq_true hc, Bool.true_and] at hh; exact hh
          · exact Or.inr q2
  obtain ⟨j, hj⟩ := ex
  unfold egt
  rw [if_pos ⟨hx, hu⟩, hj]
  dsimp only
  by_cases h16j : j < 16
  · rw [if_pos h16j]
    have hg := (lst_lt 20 hj).2
    have hd : ndc h n nw c j = true := by
      unfold ndc ndh
      rw [Bool.and_eq_true, decide_eq_true_eq]
      exact ⟨(anyb_iff 26).mpr ⟨x, hx, by rw [hus, hu, hg]; rfl⟩, h16j⟩
    have hjn := ndc_lt h16 hd
    refine hV j hjn (a4 j hjn hd).1 x hx ?_
    rw [bt_or]
    unfold gvb at hg
    split at hg
    · rename_i l hl
      have e : j = l := of_decide_eq_true hg
      subst e
      have h2 := (lst_lt 16 hl).2
      rw [Bool.and_eq_true] at h2
      have h3 := h2.1
      unfold chh at h3
      rw [Bool.and_eq_true] at h3
      rw [h3.2, Bool.or_true]
    · rw [Bool.and_eq_true] at hg
      have h3 := hg.1
      unfold dfh at h3
      simp only [Bool.or_eq_true, Bool.and_eq_true, decide_eq_true_eq] at h3
      rcases h3 with h3 | h3
      · rw [h3.2]; rfl
      · omega
  · rw [if_neg h16j]; rfl
/-- the class gathers what the model fetches, where the values are given -/
theorem gath2 (J : JOK h n nw) (W : MW h m n nw) (hsh : ∀ w, w < nw → h 8 w = m 1115 w) (hv : vld m 1093) {V : Nat → Nat → Option VL} (hV : ∀ j, j < n → s j = 0 → (∀ x, x < 27 → cv h (64 * j + 59) x (V j x)) ∧ (∀ x, x < 26 → mv m 1093 (234 * j + 9 * x) (V j x))) (hs : isSt n (ndc h n nw) (twh h n nw 26) (own h n nw) s) (hc : c < n) (h5 : ¬ twh h n nw 26 c = true) (hrd : ∀ j, j < n → ndc h n nw c j = true → s j = 0) (hus : h (64 * c + 55) 7 = us) : ∃ h1, p_141 h (Int32.ofNat c) 0 = some h1 ∧ (∀ i, i < 27 → cv h1 45 i (egt V h n nw c us i)) ∧ w_fr (fun q => q = 46 ∨ q = 47) h h1 ∧ FHx m c us (egt V h n nw c us) := by
  have h16 := J.1
  have nsv1 := nsv_ok J W hc h5 (fun j hj hd => (st0 hs hj (hrd j hj hd)).2.1) hus
  have giv : ∀ x, x < 26 → bt us x = true → ∀ j, j < 16 → gvr h n nw c x = some j → j < n ∧ s j = 0 := by
    intro x hx hu j hj hg
    have hb := (lst_lt 20 hg).2
    have hd : ndc h n nw c j = true := by
      unfold ndc ndh
      simp only [Bool.and_eq_true, decide_eq_true_eq]
      exact ⟨(anyb_iff 26).mpr ⟨x, hx, by rw [hus, hu, Bool.true_and]; exact hb⟩, hj⟩
    have := ndc_lt h16 hd
    exact ⟨this, hrd j this hd⟩
  obtain ⟨h1, p1, v1, f1⟩ := c_141 (h := h) (n := n) (nw := nw) (c := c) (V := V) (us := us) (x2 := 0) (o := 59) h16 J.2.2.2.1 J.2.1 J.2.2.1 J.2.2.2.2.2.1 hc hus (Or.inl ⟨rfl, rfl⟩) nsv1 (fun x hx hu j hj hg => by
    obtain ⟨a, b⟩ := giv x hx hu j hj hg
    exact (hV j a b).1 x (by omega))
  exact ⟨h1, p1, v1, f1, FHx_of W hc nsv1 hsh (fun x hx hu j hj hg => by
    obtain ⟨a, b⟩ := giv x hx hu j hj hg
    exact (hV j a b).2 x hx)⟩
theorem own_eq (e8 : h' 8 = h 8) (e14 : h' 14 = h 14) (end_ : ndc h' n nw = ndc h n nw) (e52 : ∀ j b, b ≠ 16 → h' (64 * j + 52) b = h (64 * j + 52) b) (e79 : ∀ j, h' (64 * j + 79) = h (64 * j + 79)) : own h' n nw = own h n nw := by
  funext c
  have e1 : anyb (fun k => ndc h' n nw c k && decide (h' (64 * c + 52) 14 < h' (64 * k + 52) 14)) n = anyb (fun k => ndc h n nw c k && decide (h (64 * c + 52) 14 < h (64 * k + 52) 14)) n :=
    anyb_congr n (fun i _ => by rw [end_, e52 c 14 (by decide), e52 i 14 (by decide)])
  have e2 : ∀ y, asT h' nw (64 * c + 52) y = asT h nw (64 * c + 52) y := fun y => by
    unfold asT
    have : ∀ w, shv h' nw w = shv h nw w := fun w => by unfold shv; rw [e8]
    have e3 : h' (64 * c + 52 + 27) = h (64 * c + 52 + 27) := by
      have := e79 c
      rw [show 64 * c + 79 = 64 * c + 52 + 27 by omega] at this; exact this
    rw [e3, e52 c 15 (by decide), e52 c 13 (by decide)]
    simp only [this]
  unfold own
  rw [e1, e2, e52 c 11 (by decide), e14]
/-- a row -/
def isR : Option VL → Bool
  | some (.inr _) => true
  | _ => false
/-- are numbers alone: the class -/
def nal (V : Nat → Option VL) (n : Nat) : Bool := !anyb (fun x => isR (V x)) n
theorem c_74 {q : Nat} {V : Nat → Option VL} (hV : ∀ x, x < 27 → cv h q x (V x)) : p_74 h q = some (ofB (nal V 27)) := by
  have key : ok (p_74 h q) (fun r => r = ofB (nal V 27)) := by
    unfold p_74
    refine ok_for (fun i s => s = Int32.ofNat i ∧ nal V i = true) 27 ⟨rfl, rfl⟩ (by unfold w_N; omega) ?_ ?_
    · rintro i j hi ⟨rfl, D⟩
      have lt1 : Int32.ofNat i < 27 := (u_ltL (n := 27) (by omega) (by decide)).mpr hi
      unfold l_74_2
      rw [if_pos lt1]
      simp (disch := omega) only [u_ix, u_cl, w_gd]
      have hv := hV i hi
      obtain ⟨t1, t2⟩ := cv_tag hv
      have step : nal V (i + 1) = (nal V i && !(isR (V i))) := by
        unfold nal
        simp only [anyb, Bool.not_or]
      by_cases e : h (q + 1) i < 2
      · rw [if_pos e]
        refine ok_some ⟨u_S i, ?_⟩
        rw [step, D]
        cases hvi : V i with
        | none => rfl
        | some v =>
          cases v with
          | inl a => rfl
          | inr l =>
            rw [hvi] at t1
            rw [t1] at e
            have := (u_ltL (n := 2) (show vTag (some (.inr l)) < 2147483648 by rw [hvi] at t2; omega) (by decide)).mp e
            have e3 : vTag (some (.inr l)) = l.length + 2 := rfl
            omega
      · rw [if_neg e]
        refine ok_some ?_
        show (0 : Int32) = ofB (nal V 27)
        have hf : nal V (i + 1) = false := by
          rw [step, D]
          cases hvi : V i with
          | none => rw [hvi] at t1; rw [t1] at e; exact absurd (by decide) e
          | some v =>
            cases v with
            | inl a => rw [hvi] at t1; rw [t1] at e; exact absurd (show Int32.ofNat (vTag (some (.inl a))) < 2 from (by decide : Int32.ofNat 1 < 2)) e
            | inr l => rfl
        have hf2 : nal V 27 = false := by
          unfold nal at hf ⊢
          cases ha : anyb (fun x => isR (V x)) 27 with
          | true => rfl
          | false =>
            have : anyb (fun x => isR (V x)) (i + 1) = true := by
              cases hb : anyb (fun x => isR (V x)) (i + 1) with
              | true => rfl
              | false => rw [hb] at hf; cases hf
            obtain ⟨j, j1, j2⟩ := (anyb_iff (i + 1)).mp this
            have : anyb (fun x => isR (V x)) 27 = true := (anyb_iff 27).mpr ⟨j, by omega, j2⟩
            rw [this] at ha; cases ha
        rw [hf2]; rfl
    · rintro j ⟨rfl, D⟩
      unfold l_74_2
      rw [if_neg (by decide)]
      refine ok_some ?_
      show (1 : Int32) = ofB (nal V 27)
      rw [D]; rfl
  obtain ⟨r, r1, r2⟩ := key
  rw [r1, r2]
/-- a value is no row: the model -/
theorem mv_neg {r o : Nat} {v : Option VL} (H : mv m r o v) : (m r o < 0) ↔ ¬ (isR v) = true := by
  cases v with
  | none =>
    have h : m r o = -2 := H
    rw [h]
    exact ⟨fun _ hh => (by cases hh), fun _ => (by decide)⟩
  | some v =>
    cases v with
    | inl a => rw [H.1]; exact ⟨fun _ hh => (by cases hh), fun _ => (by decide)⟩
    | inr l =>
      rw [H.2.1]
      have := H.1
      exact ⟨fun hh => absurd hh (u_lt0 (by omega)), fun hh => absurd rfl hh⟩
/-- numbers alone in the model: the names -/
theorem m_227n {V : Nat → Option VL} (hc : c < 16) (hV : ∀ x, x < 26 → mv m 1093 (234 * c + 9 * x) (V x)) (b0 : Bool) : w_lp (fun (s : Int32 × Int32) => l_227_34 m (Int32.ofNat c) s.1 s.2) w_N (ofB b0, 0) = some (ofB (b0 && nal V 26)) := by
  have key : ok (w_lp (fun (s : Int32 × Int32) => l_227_34 m (Int32.ofNat c) s.1 s.2) w_N (ofB b0, 0)) (fun r => r = ofB (b0 && nal V 26)) := by
    refine ok_for (fun i s => s.2 = Int32.ofNat i ∧ s.1 = ofB (b0 && nal V i)) 26 ⟨rfl, by show ofB b0 = ofB (b0 && true); rw [Bool.and_true]⟩ (by unfold w_N; omega) ?_ ?_
    · rintro i ⟨y, j⟩ hi ⟨rfl, e1⟩
      have e1' : y = ofB (b0 && nal V i) := e1
      subst e1'
      have lt1 : Int32.ofNat i < 26 := (u_ltL (n := 26) (by omega) (by decide)).mpr hi
      have ea : (234 : Int32) * Int32.ofNat c + 9 * Int32.ofNat i = Int32.ofNat (234 * c + 9 * i) := by rw [show (234 : Int32) * Int32.ofNat c = Int32.ofNat (234 * c) from u_Lmul c 234, show (9 : Int32) * Int32.ofNat i = Int32.ofNat (9 * i) from u_Lmul i 9, u_add]
      have step : nal V (i + 1) = (nal V i && !(isR (V i))) := by
        unfold nal
        simp only [anyb, Bool.not_or]
      show ok (l_227_34 m (Int32.ofNat c) (ofB (b0 && nal V i)) (Int32.ofNat i)) _
      unfold l_227_34
      rw [if_pos lt1]
      cases hb : (b0 && nal V i) with
      | false =>
        rw [if_pos (show ofB false = 0 from rfl)]
        refine ok_some ?_
        show ofB false = ofB (b0 && nal V 26)
        cases b0 with
        | false => rfl
        | true =>
          rw [Bool.true_and] at hb ⊢
          have : nal V 26 = false := by
            unfold nal at hb ⊢
            cases ha : anyb (fun x => isR (V x)) 26 with
            | true => rfl
            | false =>
              have h1 : anyb (fun x => isR (V x)) i = true := by
                cases hq : anyb (fun x => isR (V x)) i with
                | true => rfl
                | false => rw [hq] at hb; cases hb
              obtain ⟨j, j1, j2⟩ := (anyb_iff i).mp h1
              have h2 : anyb (fun x => isR (V x)) 26 = true := (anyb_iff 26).mpr ⟨j, by omega, j2⟩
              rw [h2] at ha; cases ha
          rw [this]
      | true =>
        rw [if_neg (show ¬ ofB true = 0 by decide), ea]
        simp (disch := omega) only [u_ix, u_cl, w_gd]
        refine ok_some ⟨u_S i, ?_⟩
        show (if m 1093 (234 * c + 9 * i) < 0 then 1 else 0 : Int32) = ofB (b0 && nal V (i + 1))
        rw [Bool.and_eq_true] at hb
        rw [step, hb.1, hb.2, Bool.true_and, Bool.true_and]
        have hn := mv_neg (hV i hi)
        cases hq : (isR (V i)) with
        | true => rw [if_neg (fun hh => (hn.mp hh) hq)]; rfl
        | false => rw [if_pos (hn.mpr (by rw [hq]; decide))]; rfl
    · rintro ⟨y, j⟩ ⟨rfl, e1⟩
      show ok (l_227_34 m (Int32.ofNat c) y (Int32.ofNat 26)) _
      unfold l_227_34
      rw [if_neg (by decide)]
      exact ok_some e1
  obtain ⟨r, r1, r2⟩ := key
  rw [r1, r2]
/-- no chance and time in the text: the model -/
def ncq (T : List Int32) (n : Nat) : Bool := !anyb (fun i => decide (T.getD i 0 = 63) || decide (T.getD i 0 = 64)) n
theorem m_227t (hc : c < 16) (MT : mt m c T) (b0 : Bool) : w_lp (fun (s : Int32 × Int32) => l_227_58 m (Int32.ofNat c) s.1 s.2) w_N (ofB b0, 0) = some (ofB (b0 && ncq T T.length)) := by
  have h40 := MT.1
  have mono : ∀ i j, i ≤ j → ncq T i = false → ncq T j = false := by
    intro i j hij hi
    unfold ncq at hi ⊢
    cases ha : anyb (fun i => decide (T.getD i 0 = 63) || decide (T.getD i 0 = 64)) i with
    | false => rw [ha] at hi; cases hi
    | true =>
      obtain ⟨a, a1, a2⟩ := (anyb_iff i).mp ha
      have : anyb (fun i => decide (T.getD i 0 = 63) || decide (T.getD i 0 = 64)) j = true := (anyb_iff j).mpr ⟨a, by omega, a2⟩
      rw [this]; rfl
  have key : ok (w_lp (fun (s : Int32 × Int32) => l_227_58 m (Int32.ofNat c) s.1 s.2) w_N (ofB b0, 0)) (fun r => r = ofB (b0 && ncq T T.length)) := by
    refine ok_for (fun i s => s.2 = Int32.ofNat i ∧ s.1 = ofB (b0 && ncq T i)) T.length ⟨rfl, by show ofB b0 = ofB (b0 && true); rw [Bool.and_true]⟩ (by unfold w_N; omega) ?_ ?_
    · rintro i ⟨y, j⟩ hi ⟨rfl, e1⟩
      have e1' : y = ofB (b0 && ncq T i) := e1
      subst e1'
      have lt1 : Int32.ofNat i < Int32.ofNat T.length := (u_lt (by omega) (by omega)).mpr hi
      show ok (l_227_58 m (Int32.ofNat c) (ofB (b0 && ncq T i)) (Int32.ofNat i)) _
      unfold l_227_58
      cases hb : (b0 && ncq T i) with
      | false =>
        rw [if_pos (show ofB false = 0 from rfl)]
        refine ok_some ?_
        show ofB false = ofB (b0 && ncq T T.length)
        cases b0 with
        | false => rfl
        | true =>
          rw [Bool.true_and] at hb ⊢
          rw [mono i T.length (by omega) hb]
      | true =>
        rw [if_neg (show ¬ ofB true = 0 by decide), u_ix hc (by decide), u_cl (by omega), MT.2.1]
        simp only [w_gd]
        rw [if_pos lt1, u_40]
        simp (disch := omega) only [u_ix, u_cl, ite_self]
        rw [MT.2.2 i hi]
        refine ok_some ⟨u_S i, ?_⟩
        show (if T.getD i 0 = 63 then 0 else (if T.getD i 0 = 64 then 0 else 1 : Int32) : Int32) = ofB (b0 && ncq T (i + 1))
        rw [Bool.and_eq_true] at hb
        have step : ncq T (i + 1) = (ncq T i && !(decide (T.getD i 0 = 63) || decide (T.getD i 0 = 64))) := by
          unfold ncq
          simp only [anyb, Bool.not_or]
        rw [step, hb.1, hb.2, Bool.true_and, Bool.true_and]
        by_cases e3 : T.getD i 0 = 63
        · rw [if_pos e3, decide_eq_true e3]; rfl
        · rw [if_neg e3, decide_eq_false e3]
          by_cases e4 : T.getD i 0 = 64
          · rw [if_pos e4, decide_eq_true e4]; rfl
          · rw [if_neg e4, decide_eq_false e4]; rfl
    · rintro ⟨y, j⟩ ⟨rfl, e1⟩
      have e1' : y = ofB (b0 && ncq T T.length) := e1
      subst e1'
      show ok (l_227_58 m (Int32.ofNat c) (ofB (b0 && ncq T T.length)) (Int32.ofNat T.length)) _
      unfold l_227_58
      by_cases e : ofB (b0 && ncq T T.length) = 0
      · rw [if_pos e]; exact ok_some rfl
      · rw [if_neg e, u_ix hc (by decide), u_cl (by omega), MT.2.1]
        simp only [w_gd]
        rw [if_neg (fun hh => Nat.lt_irrefl _ ((u_lt (by omega) (by omega)).mp hh))]
        exact ok_some rfl
  obtain ⟨r, r1, r2⟩ := key
  rw [r1, r2]
theorem ncq_mem : ncq T T.length = (!decide ((63 : Int32) ∈ T) && !decide ((64 : Int32) ∈ T)) := by
  rw [Bool.eq_iff_iff]
  unfold ncq
  rw [Bool.not_eq_true', Bool.and_eq_true, Bool.not_eq_true', Bool.not_eq_true', decide_eq_false_iff_not, decide_eq_false_iff_not]
  constructor
  · intro ha
    have hn : ¬ anyb (fun i => decide (T.getD i 0 = 63) || decide (T.getD i 0 = 64)) T.length = true := by rw [ha]; decide
    rw [anyb_iff] at hn
    refine ⟨fun hm => ?_, fun hm => ?_⟩
    · obtain ⟨i, i1, i2⟩ := mem_getD.mp hm
      exact hn ⟨i, i1, by rw [decide_eq_true i2]; rfl⟩
    · obtain ⟨i, i1, i2⟩ := mem_getD.mp hm
      exact hn ⟨i, i1, by rw [decide_eq_true i2, Bool.or_true]⟩
  · intro ⟨h1, h2⟩
    cases ha : anyb (fun i => decide (T.getD i 0 = 63) || decide (T.getD i 0 = 64)) T.length with
    | false => rfl
    | true =>
      obtain ⟨i, i1, i2⟩ := (anyb_iff _).mp ha
      rw [Bool.or_eq_true, decide_eq_true_eq, decide_eq_true_eq] at i2
      rcases i2 with i2 | i2
      · exact absurd (mem_getD.mpr ⟨i, i1, i2⟩) h1
      · exact absurd (mem_getD.mpr ⟨i, i1, i2⟩) h2
end SB9
