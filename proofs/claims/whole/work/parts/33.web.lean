/-! ===== the class's web: closure, rings, order ===== -/
theorem s_83a {g : Hp} {n : Nat} {nd : Nat → Nat → Bool} {v : Nat} (hn : g 11 8 = Int32.ofNat n) (h16 : n ≤ 16) (hv : v < n) (hr : ∀ c, c < n → ∀ j, j < 32 → bt (g 15 c) j = cl nd v c j) : ok (w_lp (fun (s : Int32 × Hp) => l_83_8 (Int32.ofNat v) s.1 s.2) w_N (0, g)) (fun h' => w_fr (fun q => q = 15) g h' ∧ ∀ c, c < n → ∀ j, j < 32 → bt (h' 15 c) j = cl nd (v + 1) c j) := by
  refine ok_for (fun i s => s.1 = Int32.ofNat i ∧ w_fr (fun q => q = 15) g s.2 ∧ ∀ c, c < n → ∀ j, j < 32 → bt (s.2 15 c) j = if c < i then cl nd (v + 1) c j else cl nd v c j) n ⟨rfl, w_fr_refl _ _, fun c hc j hj => by rw [if_neg (by omega)]; exact hr c hc j hj⟩ (by unfold w_N; omega) ?_ ?_
  · rintro i ⟨i', k⟩ hi ⟨e, hk, hc⟩
    simp only at e hk hc
    subst e
    have hvv : ∀ j, j < 32 → bt (k 15 v) j = cl nd v v j := by
      intro j hj
      rw [hc v hv j hj]
      split
      · simp only [cl]; cases cl nd v v j <;> simp
      · rfl
    simp only [l_83_8]
    refine ok_T ?_ ?_
    · rw [hk 11 (by decide), hn]; exact (u_lt (by omega) (by omega)).mpr hi
    have hii : ∀ j, j < 32 → bt (k 15 i) j = cl nd v i j := by
      intro j hj
      rw [hc i hi j hj, if_neg (by omega)]
    simp (disch := omega) only [u_ix, u_cl, w_gd, w_let, u_has, hii, ite_self, u_b01]
    refine ok_some ⟨u_S i, w_fr_up hk rfl, fun c hcn j hj => ?_⟩
    dsimp only
    by_cases h1 : c = i
    · subst h1
      rw [w_up_at, bt_or, hii j hj]
      have hlt : c < c + 1 := Nat.lt_succ_self c
      simp only [hlt, if_true, cl]
      cases hh : cl nd v c v with
      | true => simp only [if_true, hvv j hj, Bool.true_and]
      | false => simp only [Bool.false_eq_true, if_false, bt_zero, Bool.false_and]
    · rw [w_up_b h1, hc c hcn j hj]
      by_cases h2 : c < i
      · rw [if_pos h2, if_pos (by omega)]
      · rw [if_neg h2, if_neg (by omega)]
  · rintro ⟨i', k⟩ ⟨e, hk, hc⟩
    simp only at e hk hc
    subst e
    simp only [l_83_8]
    refine ok_F ?_ (ok_some ⟨hk, fun c hcn j hj => ?_⟩)
    · rw [hk 11 (by decide), hn, u_lt (by omega) (by omega)]; omega
    · rw [hc c hcn j hj, if_pos hcn]
theorem s_83 {g : Hp} {n : Nat} {nd : Nat → Nat → Bool} (hn : g 11 8 = Int32.ofNat n) (h16 : n ≤ 16) (hr : ∀ c, c < n → ∀ j, j < 32 → bt (g 15 c) j = nd c j) : ok (p_83 g) (fun h' => w_fr (fun q => q = 15 ∨ q = 11) g h' ∧ (∀ b, b ≠ 7 → h' 11 b = g 11 b) ∧ (∀ c, c < n → ∀ j, j < 32 → bt (h' 15 c) j = cl nd n c j) ∧ ∀ j, bt (h' 11 7) j = (decide (j < n) && cl nd n j j)) := by
  unfold p_83
  refine ok_bind (P := fun h' => w_fr (fun q => q = 15) g h' ∧ ∀ c, c < n → ∀ j, j < 32 → bt (h' 15 c) j = cl nd n c j) ?_ ?_
  · refine ok_for (fun i s => s.1 = Int32.ofNat i ∧ w_fr (fun q => q = 15) g s.2 ∧ ∀ c, c < n → ∀ j, j < 32 → bt (s.2 15 c) j = cl nd i c j) n ⟨rfl, w_fr_refl _ _, hr⟩ (by unfold w_N; omega) ?_ ?_
    · rintro i ⟨i', k⟩ hi ⟨e, hk, hc⟩
      simp only at e hk hc
      subst e
      simp only [l_83_2]
      refine ok_T ?_ ?_
      · rw [hk 11 (by decide), hn]; exact (u_lt (by omega) (by omega)).mpr hi
      refine ok_bind (s_83a (v := i) (by rw [hk 11 (by decide)]; exact hn) h16 hi hc) ?_
      rintro r ⟨h1, h2⟩
      exact ok_some ⟨u_S i, w_fr_trans hk h1, h2⟩
    · rintro ⟨i', k⟩ ⟨e, hk, hc⟩
      simp only at e hk hc
      subst e
      simp only [l_83_2]
      refine ok_F ?_ (ok_some ⟨hk, hc⟩)
      rw [hk 11 (by decide), hn, u_lt (by omega) (by omega)]; omega
  · rintro r ⟨hf, hc⟩
    simp only [w_let]
    have hr8 : r 11 8 = Int32.ofNat n := by rw [hf 11 (by decide)]; exact hn
    refine ok_for (fun i s => s.1 = Int32.ofNat i ∧ s.2 = w_up r 11 7 (sbo (fun k => cl nd n k k) 0 i)) n ⟨rfl, rfl⟩ (by unfold w_N; omega) ?_ ?_
    · rintro i ⟨i', k⟩ hi ⟨e, hk⟩
      simp only at e hk
      subst e; subst hk
      simp (disch := omega) only [l_83_41, w_up_b, w_up_q, w_up_at, hr8, u_lt, hi, if_true, u_ix, w_gd, u_cl, u_has, hc, u_b01, w_let, w_up_up]
      refine ok_some ⟨u_S i, ?_⟩
      simp only [sbo, Nat.zero_add]
    · rintro ⟨i', k⟩ ⟨e, hk⟩
      simp only at e hk
      subst e; subst hk
      simp (disch := omega) only [l_83_41, w_up_b, hr8, u_lt, Nat.lt_irrefl, if_false]
      refine ok_some ⟨w_fr_up (w_fr_mono hf (fun q hq => Or.inl hq)) (Or.inr rfl), ?_, ?_, ?_⟩
      · intro b hb
        rw [w_up_b hb, hf 11 (by decide)]
      · intro c hcn j hj
        rw [w_up_q (by decide)]; exact hc c hcn j hj
      · intro j
        rw [w_up_at, bt_sbo _ _ (by omega)]; simp
theorem s_84 {g : Hp} {n c : Nat} {nd : Nat → Nat → Bool} (hn : g 11 8 = Int32.ofNat n) (h16 : n ≤ 16) (hc : c < n) (hr : ∀ c, c < n → ∀ j, j < 32 → bt (g 15 c) j = cl nd n c j) : p_84 g (Int32.ofNat c) = some (sbo (fun j => cl nd n c j && cl nd n j c) 0 n) := by
  unfold p_84
  refine u_for (fun i => (sbo (fun j => cl nd n c j && cl nd n j c) 0 i, Int32.ofNat i)) n (by unfold w_N; omega) ?_ ?_
  · intro i hi
    have e1 := hr c hc i (by omega)
    have e2 := hr i hi c (by omega)
    simp (disch := omega) only [l_84_4, q_84_25, hn, u_lt, hi, if_true, u_ix, w_gd, u_cl, u_has, e1, e2, u_b01, ite_self, sbo, u_S, Nat.zero_add]
    cases cl nd n c i <;> cases cl nd n i c <;> rfl
  · simp (disch := omega) only [l_84_4, hn, u_lt, Nat.lt_irrefl, if_false]
/-- the first place where something holds -/
def fst1 (f : Nat → Bool) : Nat → Option Nat
  | 0 => none
  | n + 1 => match fst1 f n with
    | some k => some k
    | none => if f n then some n else none
theorem fst1_lt {f : Nat → Bool} {k : Nat} : ∀ n, fst1 f n = some k → k < n ∧ f k = true ∧ ∀ i, i < k → f i = false := by
  intro n
  induction n with
  | zero => intro h; cases h
  | succ n ih =>
    intro h
    simp only [fst1] at h
    cases hh : fst1 f n with
    | some m =>
      rw [hh] at h; cases h
      obtain ⟨a, b, c⟩ := ih hh
      exact ⟨by omega, b, c⟩
    | none =>
      rw [hh] at h
      simp only at h
      split at h
      · rename_i hf
        cases h
        refine ⟨by omega, hf, ?_⟩
        have key : ∀ m, fst1 f m = none → ∀ i, i < m → f i = false := by
          intro m
          induction m with
          | zero => intro _ i hi; omega
          | succ m ihm => intro hm i hi; grind [fst1]
        exact key _ hh
      · cases h
theorem fst1_none {f : Nat → Bool} : ∀ n, fst1 f n = none → ∀ i, i < n → f i = false := by
  intro n
  induction n with
  | zero => intro _ i hi; omega
  | succ n ih => intro h i hi; grind [fst1]
theorem fst1_mono {f : Nat → Bool} {k n : Nat} : ∀ m, n ≤ m → fst1 f n = some k → fst1 f m = some k := by
  intro m hm h
  induction hm with
  | refl => exact h
  | step _ ih => simp only [fst1, ih]
theorem fst1_at {f : Nat → Bool} {i n : Nat} (h0 : fst1 f i = none) (hf : f i = true) (hi : i < n) : fst1 f n = some i :=
  fst1_mono (n := i + 1) n hi (by simp only [fst1, h0, hf, if_true])
theorem fst1_congr {f g : Nat → Bool} : ∀ n, (∀ i, i < n → f i = g i) → fst1 f n = fst1 g n := by
  intro n
  induction n with
  | zero => intro _; rfl
  | succ n ih => intro h; grind [fst1]
/-- what is barred from the plain program; what comes next in it -/
def okb (n : Nat) (nd : Nat → Nat → Bool) (tw : Nat → Bool) (c : Nat) : Bool := !anyb (fun j => (decide (j = c) || cl nd n c j) && (tw j || (decide (j < n) && cl nd n j j))) 32
def nxf (n : Nat) (nd : Nat → Nat → Bool) (tw : Nat → Bool) (l : List Nat) (c : Nat) : Bool := (okb n nd tw c && !anyb (fun j => nd c j && !decide (j ∈ l)) 32) && !decide (c ∈ l)
def ordl (n : Nat) (nd : Nat → Nat → Bool) (tw : Nat → Bool) : Nat → List Nat
  | 0 => []
  | k + 1 => match fst1 (nxf n nd tw (ordl n nd tw k)) n with
    | some c => ordl n nd tw k ++ [c]
    | none => ordl n nd tw k
theorem u_z0 {x : Int32} {f : Nat → Bool} (h : ∀ j, j < 32 → bt x j = f j) : x = 0 ↔ ¬ anyb f 32 = true := by
  rw [anyb_iff, bt_0iff]
  constructor
  · rintro h1 ⟨i, hi, hf⟩
    rw [← h i hi, h1 i hi] at hf; cases hf
  · intro h1 i hi
    rw [h i hi]
    cases hf : f i with
    | false => rfl
    | true => exact absurd ⟨i, hi, hf⟩ h1
theorem s_86 {g : Hp} {n : Nat} {nd : Nat → Nat → Bool} {tw : Nat → Bool} {l : List Nat} {x : Int32} (hn : g 11 8 = Int32.ofNat n) (h16 : n ≤ 16) (hl : ∀ j, j < 32 → bt x j = decide (j ∈ l)) (h14 : ∀ c, c < n → ∀ j, j < 32 → (bt (g 14 c) j && decide (j < 16)) = nd c j) (h15 : ∀ c, c < n → ∀ j, j < 32 → bt (g 15 c) j = cl nd n c j) (h6 : ∀ j, j < 32 → bt (g 11 6) j = tw j) (h7 : ∀ j, j < 32 → bt (g 11 7) j = (decide (j < n) && cl nd n j j)) : p_86 g x = some (oi (fst1 (nxf n nd tw l) n)) := by
  have : ok (p_86 g x) (fun r => r = oi (fst1 (nxf n nd tw l) n)) := by
    unfold p_86
    refine ok_for (fun i s => s = Int32.ofNat i ∧ fst1 (nxf n nd tw l) i = none) n ⟨rfl, rfl⟩ (by unfold w_N; omega) ?_ ?_
    · rintro i s hi ⟨e, h0⟩
      subst e
      have b1 : ∀ j, j < 32 → bt ((1 <<< (Int32.ofNat i &&& 31) ||| g 15 i) &&& (g 11 6 ||| g 11 7)) j = ((decide (j = i) || cl nd n i j) && (tw j || (decide (j < n) && cl nd n j j))) := by
        intro j hj
        rw [bt_and, bt_or, bt_or, bt_one (by omega), h15 i hi j hj, h6 j hj, h7 j hj]
      have b2 : ∀ j, j < 32 → bt (((g 14 i) &&& 65535) &&& (x ^^^ (-1))) j = (nd i j && !decide (j ∈ l)) := by
        intro j hj
        rw [bt_and, bt_and, bt_not hj, u_all, hl j hj, h14 i hi j hj]
      have z1 := u_z0 b1
      have z2 := u_z0 b2
      simp (disch := omega) only [l_86_8, q_86_26, q_86_41, hn, u_lt, hi, if_true, u_ix, w_gd, u_cl, u_has, hl, u_b01, u_S, z1, z2]
      have hnx : nxf n nd tw l i = (okb n nd tw i && !anyb (fun j => nd i j && !decide (j ∈ l)) 32 && !decide (i ∈ l)) := rfl
      have hok : okb n nd tw i = !anyb (fun j => (decide (j = i) || cl nd n i j) && (tw j || (decide (j < n) && cl nd n j j))) 32 := rfl
      have go : nxf n nd tw l i = false → fst1 (nxf n nd tw l) (i + 1) = none := fun hf => by simp only [fst1, h0, hf]; rfl
      have stop : nxf n nd tw l i = true → fst1 (nxf n nd tw l) n = some i := fun hf => fst1_at h0 hf hi
      cases c1 : anyb (fun j => (decide (j = i) || cl nd n i j) && (tw j || (decide (j < n) && cl nd n j j))) 32 with
      | true =>
        have hf : nxf n nd tw l i = false := by rw [hnx, hok, c1]; rfl
        exact ⟨_, rfl, rfl, go hf⟩
      | false =>
        cases c2 : anyb (fun j => nd i j && !decide (j ∈ l)) 32 with
        | true =>
          have hf : nxf n nd tw l i = false := by rw [hnx, hok, c1, c2]; rfl
          exact ⟨_, rfl, rfl, go hf⟩
        | false =>
          by_cases c3 : i ∈ l
          · have hf : nxf n nd tw l i = false := by rw [hnx, hok, c1, c2]; simp [c3]
            simp only [c3, decide_true]
            exact ⟨_, rfl, rfl, go hf⟩
          · have hf : nxf n nd tw l i = true := by rw [hnx, hok, c1, c2]; simp [c3]
            simp only [c3, decide_false]
            exact ⟨_, rfl, by rw [stop hf]; rfl⟩
    · rintro s ⟨e, h0⟩
      subst e
      simp (disch := omega) only [l_86_8, hn, u_lt, Nat.lt_irrefl, if_false]
      exact ok_some (by rw [h0]; rfl)
  obtain ⟨r, h1, h2⟩ := this
  rw [h1, h2]
theorem ordl_stop {n : Nat} {nd : Nat → Nat → Bool} {tw : Nat → Bool} {k : Nat} (h : fst1 (nxf n nd tw (ordl n nd tw k)) n = none) : ∀ m, k ≤ m → ordl n nd tw m = ordl n nd tw k := by
  intro m hm
  induction hm with
  | refl => rfl
  | step _ ih => simp only [ordl, ih, h]
theorem ordl_len {n : Nat} {nd : Nat → Nat → Bool} {tw : Nat → Bool} : ∀ k, (ordl n nd tw k).length ≤ k := by
  intro k
  induction k with
  | zero => exact Nat.le_refl 0
  | succ k ih =>
    simp only [ordl]
    split
    · simp; omega
    · omega
theorem s_85 {g : Hp} {n : Nat} {nd : Nat → Nat → Bool} {tw : Nat → Bool} (hn : g 11 8 = Int32.ofNat n) (h16 : n ≤ 16) (h14 : ∀ c, c < n → ∀ j, j < 32 → (bt (g 14 c) j && decide (j < 16)) = nd c j) (h15 : ∀ c, c < n → ∀ j, j < 32 → bt (g 15 c) j = cl nd n c j) (h6 : ∀ j, j < 32 → bt (g 11 6) j = tw j) (h7 : ∀ j, j < 32 → bt (g 11 7) j = (decide (j < n) && cl nd n j j)) : ok (p_85 g) (fun h' => w_fr (fun q => q = 16 ∨ q = 11) g h' ∧ (∀ b, b ≠ 5 → h' 11 b = g 11 b) ∧ h' 11 5 = Int32.ofNat (ordl n nd tw n).length ∧ ∀ i, i < (ordl n nd tw n).length → h' 16 i = Int32.ofNat ((ordl n nd tw n).getD i 0)) := by
  unfold p_85
  simp only [w_let]
  refine ok_for (fun i s => s.2.1 = Int32.ofNat i ∧ (∀ j, j < 32 → bt s.1 j = decide (j ∈ ordl n nd tw i)) ∧ w_fr (fun q => q = 16 ∨ q = 11) g s.2.2 ∧ (∀ b, b ≠ 5 → s.2.2 11 b = g 11 b) ∧ s.2.2 11 5 = Int32.ofNat (ordl n nd tw i).length ∧ ∀ k, k < (ordl n nd tw i).length → s.2.2 16 k = Int32.ofNat ((ordl n nd tw i).getD k 0)) n ⟨rfl, fun j _ => by rw [bt_zero]; rfl, w_fr_up (w_fr_refl _ _) (Or.inr rfl), fun b hb => w_up_b hb, (by show w_up g 11 5 0 11 5 = 0; exact w_up_at), fun k hk => by simp [ordl] at hk⟩ (by unfold w_N; omega) ?_ ?_
  · rintro i ⟨x, i', k⟩ hi ⟨e, hx, hf, hb, h5, hk⟩
    simp only at e hx hf hb h5 hk
    subst e
    have hlen := ordl_len (n := n) (nd := nd) (tw := tw) i
    simp only [l_85_7]
    refine ok_T ?_ ?_
    · rw [hb 8 (by decide), hn]; exact (u_lt (by omega) (by omega)).mpr hi
    refine ok_bE (s_86 (nd := nd) (tw := tw) (l := ordl n nd tw i) (by rw [hb 8 (by decide)]; exact hn) h16 hx (fun c hc j hj => by rw [hf 14 (by decide)]; exact h14 c hc j hj) (fun c hc j hj => by rw [hf 15 (by decide)]; exact h15 c hc j hj) (fun j hj => by rw [hb 6 (by decide)]; exact h6 j hj) (fun j hj => by rw [hb 7 (by decide)]; exact h7 j hj)) ?_
    have hm := oi_m1 (o := fst1 (nxf n nd tw (ordl n nd tw i)) n) (n := n) (fun c hc => (fst1_lt n hc).1) (by omega)
    cases hc : fst1 (nxf n nd tw (ordl n nd tw i)) n with
    | none =>
      rw [hc] at hm
      refine ok_T (hm.mpr rfl) (ok_some ?_)
      have := ordl_stop hc n (by omega)
      show _ ∧ _ ∧ _ ∧ _
      rw [this]
      exact ⟨hf, hb, h5, hk⟩
    | some c =>
      rw [hc] at hm
      have hcl := (fst1_lt n hc).1
      have hS : ordl n nd tw (i + 1) = ordl n nd tw i ++ [c] := by simp only [ordl, hc]
      refine ok_F (fun e => by cases hm.mp e) ?_
      simp only [oi]
      simp (disch := omega) only [h5, u_ix, w_gd, u_cl, w_let, w_up_q, u_S]
      refine ok_some ⟨rfl, fun j hj => ?_, ?_, ?_, ?_, ?_⟩ <;> dsimp only
      · rw [bt_or, hx j hj, bt_one (by omega), hS]
        simp [List.mem_append]
      · exact w_fr_up (w_fr_up hf (Or.inl rfl)) (Or.inr rfl)
      · intro b hb5
        rw [w_up_b hb5, w_up_q (by decide)]; exact hb b hb5
      · rw [w_up_at, hS]; simp
      · intro m hm2
        rw [hS] at hm2 ⊢
        rw [w_up_q (by decide)]
        by_cases h1 : m = (ordl n nd tw i).length
        · subst h1; rw [w_up_at]; simp
        · rw [w_up_b h1, hk m (by simp at hm2; omega)]
          have : m < (ordl n nd tw i).length := by simp at hm2; omega
          simp [List.getElem?_append, this]
  · rintro ⟨x, i', k⟩ ⟨e, hx, hf, hb, h5, hk⟩
    simp only at e hx hf hb h5 hk
    subst e
    simp only [l_85_7]
    refine ok_F ?_ (ok_some ⟨hf, hb, h5, hk⟩)
    rw [hb 8 (by decide), hn, u_lt (by omega) (by omega)]; omega
/-- the web as the texts and widgets make it -/
def WebOK (h : Hp) (n nw : Nat) : Prop := h 11 8 = Int32.ofNat n ∧ (∀ x, x < 26 → (∀ j, bt (h 12 x) j = dfh h n nw x j) ∧ (∀ j, bt (h 13 x) j = chh h n x j)) ∧ (∀ j, bt (h 11 6) j = twh h n nw 26 j) ∧ (∀ c, c < n → (∀ j, j < 32 → bt (h 14 c) j = ndh h n nw c j) ∧ (∀ j, j < 32 → bt (h 15 c) j = cl (ndc h n nw) n c j)) ∧ (∀ j, bt (h 11 7) j = (decide (j < n) && cl (ndc h n nw) n j j)) ∧ h 11 5 = Int32.ofNat (ordl n (ndc h n nw) (twh h n nw 26) n).length ∧ ∀ i, i < (ordl n (ndc h n nw) (twh h n nw 26) n).length → h 16 i = Int32.ofNat ((ordl n (ndc h n nw) (twh h n nw 26) n).getD i 0)
theorem ndh_fr {h h' : Hp} (hf : w_fr wbP h h') {n nw c j : Nat} : ndh h' n nw c j = ndh h n nw c j := by
  unfold ndh
  rw [hf (64 * c + 55) (by unfold wbP; omega)]
  refine anyb_congr 26 (fun x _ => ?_)
  have e1 : dfh h' n nw x = dfh h n nw x := funext (fun j => dfh_fr hf)
  have e2 : chh h' n x = chh h n x := funext (fun j => chh_fr hf)
  rw [e1, e2]
theorem ndc_fr {h h' : Hp} (hf : w_fr wbP h h') {n nw : Nat} : ndc h' n nw = ndc h n nw := by
  funext c j; unfold ndc; rw [ndh_fr hf]
theorem twh_fr {h h' : Hp} (hf : w_fr wbP h h') {n nw m : Nat} : twh h' n nw m = twh h n nw m := by
  funext j; unfold twh
  refine anyb_congr m (fun x _ => ?_)
  have e1 : dfh h' n nw x = dfh h n nw x := funext (fun j => dfh_fr hf)
  rw [e1]
theorem s_78 {h : Hp} {n nw : Nat} (h16 : n ≤ 16) (hw : h 4 7 = Int32.ofNat nw) (h4 : nw ≤ 4) : ok (p_78 h (Int32.ofNat n)) (fun h' => w_fr wbP h h' ∧ WebOK h' n nw) := by
  unfold p_78
  simp only [w_let]
  have em : (if 16 < Int32.ofNat n then 16 else Int32.ofNat n) = Int32.ofNat n := by
    rw [if_neg]; rw [u_Llt (by omega) (by decide)]; exact Nat.not_lt.mpr h16
  rw [em]
  generalize hg0 : w_up (w_up h 11 8 (Int32.ofNat n)) 11 6 0 = g0
  have f0 : w_fr wbP h g0 := by rw [← hg0]; exact w_fr_up (w_fr_up (w_fr_refl _ _) (by unfold wbP; omega)) (by unfold wbP; omega)
  have hn0 : g0 11 8 = Int32.ofNat n := by rw [← hg0, w_up_b (by decide), w_up_at]
  have h60 : g0 11 6 = 0 := by rw [← hg0, w_up_at]
  refine ok_bind (s_78a (nw := nw) hn0 h16 (by rw [f0 4 (by unfold wbP; omega)]; exact hw) h4 h60) ?_
  rintro g1 ⟨f1, b1, x1, t1⟩
  have f1' : w_fr wbP g0 g1 := w_fr_mono f1 (fun q hq => by unfold wbP; omega)
  have hn1 : g1 11 8 = Int32.ofNat n := by rw [b1 8 (by decide)]; exact hn0
  refine ok_bind (s_78b (h := g0) hn1 h16 f1' x1) ?_
  rintro g2 ⟨f2, n2⟩
  have f2' : w_fr wbP g1 g2 := w_fr_mono f2 (fun q hq => by unfold wbP; omega)
  have hn2 : g2 11 8 = Int32.ofNat n := by rw [f2 11 (by decide)]; exact hn1
  refine ok_bind (s_83 (nd := ndc g0 n nw) hn2 h16 (fun c hc => (n2 c hc).2)) ?_
  rintro g3 ⟨f3, b3, c3, r3⟩
  have f3' : w_fr wbP g2 g3 := w_fr_mono f3 (fun q hq => by unfold wbP; omega)
  have hn3 : g3 11 8 = Int32.ofNat n := by rw [b3 8 (by decide)]; exact hn2
  have h143 : ∀ c, c < n → ∀ j, j < 32 → bt (g3 14 c) j = ndh g0 n nw c j := fun c hc j hj => by rw [f3 14 (by decide)]; exact (n2 c hc).1 j hj
  have h63 : ∀ j, bt (g3 11 6) j = twh g0 n nw 26 j := fun j => by rw [b3 6 (by decide), f2 11 (by decide)]; exact t1 j
  refine ok_bind (s_85 (nd := ndc g0 n nw) (tw := twh g0 n nw 26) hn3 h16 (fun c hc j hj => by rw [h143 c hc j hj]; rfl) c3 (fun j _ => h63 j) (fun j _ => r3 j)) ?_
  rintro g4 ⟨f4, b4, l4, o4⟩
  have f4' : w_fr wbP g3 g4 := w_fr_mono f4 (fun q hq => by unfold wbP; omega)
  have f04 : w_fr wbP g0 g4 := w_fr_trans f1' (w_fr_trans f2' (w_fr_trans f3' f4'))
  refine ok_some ⟨w_fr_trans f0 f04, ?_, ?_, ?_, ?_, ?_, ?_, ?_⟩
  · rw [b4 8 (by decide)]; exact hn3
  · intro x hx
    refine ⟨fun j => ?_, fun j => ?_⟩
    · rw [dfh_fr f04, f4 12 (by decide), f3 12 (by decide), f2 12 (by decide)]; exact (x1 x hx).1 j
    · rw [chh_fr f04, f4 13 (by decide), f3 13 (by decide), f2 13 (by decide)]; exact (x1 x hx).2 j
  · intro j; rw [twh_fr f04, b4 6 (by decide)]; exact h63 j
  · intro c hc
    refine ⟨fun j hj => ?_, fun j hj => ?_⟩
    · rw [ndh_fr f04, f4 14 (by decide)]; exact h143 c hc j hj
    · rw [ndc_fr f04, f4 15 (by decide)]; exact c3 c hc j hj
  · intro j; rw [ndc_fr f04, b4 7 (by decide)]; exact r3 j
  · rw [ndc_fr f04, twh_fr f04]; exact l4
  · rw [ndc_fr f04, twh_fr f04]; exact o4
