/-! ===== the class's judge gives the states ===== -/
theorem gvb_lt {h : Hp} {n nw x c j : Nat} (h16 : n ≤ 16) (hg : gvb (dfh h n nw x) (chh h n x) c j = true) : j < n ∨ 16 ≤ j := by
  unfold gvb at hg
  split at hg
  · rename_i l hl
    have := (lst_lt _ hl).2
    simp only [Bool.and_eq_true] at this
    have h1 := this.1
    unfold chh at h1
    simp only [Bool.and_eq_true, decide_eq_true_eq] at h1 hg
    subst hg; exact Or.inl h1.1
  · simp only [Bool.and_eq_true, decide_eq_true_eq] at hg
    have h1 := hg.1
    unfold dfh at h1
    simp only [Bool.or_eq_true, Bool.and_eq_true, decide_eq_true_eq] at h1
    rcases h1 with h1 | h1
    · exact Or.inl h1.1
    · exact Or.inr h1.1
theorem ndc_lt {h : Hp} {n nw c j : Nat} (h16 : n ≤ 16) (hn : ndc h n nw c j = true) : j < n := by
  unfold ndc ndh at hn
  simp only [Bool.and_eq_true, decide_eq_true_eq] at hn
  obtain ⟨x, hx, h1⟩ := (anyb_iff 26).mp hn.1
  simp only [Bool.and_eq_true] at h1
  rcases gvb_lt h16 h1.2 with h | h
  · exact h
  · omega
theorem cl_lt {nd : Nat → Nat → Bool} {n : Nat} (hn : ∀ c j, nd c j = true → j < n) : ∀ v c j, cl nd v c j = true → j < n := by
  intro v
  induction v with
  | zero => intro c j h; exact hn c j h
  | succ v ih =>
    intro c j h
    rcases cl_S.mp h with h | ⟨_, h⟩
    · exact ih c j h
    · exact ih v j h
theorem ndc_self {h : Hp} {n nw c : Nat} : True := trivial
def stP (q : Nat) : Prop := q = 3
/-- a heap with which judge works -/
def JOK (h : Hp) (n nw : Nat) : Prop := n ≤ 16 ∧ h 0 10 = Int32.ofNat n ∧ h 4 7 = Int32.ofNat nw ∧ nw ≤ 4 ∧ WebOK h n nw
theorem own_fr {h h' : Hp} (hf : w_fr stP h h') {n nw c : Nat} : own h' n nw c = own h n nw c := by
  unfold own
  have e1 : ndc h' n nw = ndc h n nw := by
    funext c j
    unfold ndc ndh
    have e2 : ∀ x, dfh h' n nw x = dfh h n nw x := fun x => by
      funext j; unfold dfh; rw [hf (64 * j + 55) (by unfold stP; omega), hf 5 (by unfold stP; omega)]
    have e3 : ∀ x, chh h' n x = chh h n x := fun x => by
      funext j; unfold chh; rw [hf (64 * j + 55) (by unfold stP; omega)]
    simp only [e2, e3, hf (64 * c + 55) (by unfold stP; omega)]
  have e4 : ∀ k, h' (64 * k + 52) = h (64 * k + 52) := fun k => hf _ (by unfold stP; omega)
  have e5 : ∀ x, asT h' nw (64 * c + 52) x = asT h nw (64 * c + 52) x := fun x => by
    unfold asT
    have : ∀ w, shv h' nw w = shv h nw w := fun w => by unfold shv; rw [hf 8 (by unfold stP; omega)]
    simp only [this, e4, hf (64 * c + 52 + 27) (by unfold stP; omega)]
  simp only [e1, e4, e5, hf 14 (by unfold stP; omega)]
theorem ndc_fs {h h' : Hp} (hf : w_fr stP h h') {n nw : Nat} : ndc h' n nw = ndc h n nw := by
  funext c j
  unfold ndc ndh
  have e2 : ∀ x, dfh h' n nw x = dfh h n nw x := fun x => by
    funext j; unfold dfh; rw [hf (64 * j + 55) (by unfold stP; omega), hf 5 (by unfold stP; omega)]
  have e3 : ∀ x, chh h' n x = chh h n x := fun x => by
    funext j; unfold chh; rw [hf (64 * j + 55) (by unfold stP; omega)]
  simp only [e2, e3, hf (64 * c + 55) (by unfold stP; omega)]
theorem s_132 {h : Hp} {n nw : Nat} (hJ : JOK h n nw) : ok (p_132 h) (fun h' => w_fr stP h h' ∧ isSt n (ndc h n nw) (twh h n nw 26) (own h n nw) (h' 3)) := by
  obtain ⟨h16, hn, hw, h4, w8, w12, w6, w14, w7, w5, wo⟩ := hJ
  unfold p_132
  refine ok_bind (P := fun h' => w_fr stP h h' ∧ ∀ c, c < n → h' 3 c = if twh h n nw 26 c = true then 5 else if cl (ndc h n nw) n c c = true then 4 else 3) ?_ ?_
  · refine ok_for (fun i s => s.1 = Int32.ofNat i ∧ w_fr stP h s.2 ∧ ∀ c, c < i → s.2 3 c = if twh h n nw 26 c = true then 5 else if cl (ndc h n nw) n c c = true then 4 else 3) n ⟨rfl, w_fr_refl _ _, fun c hc => by omega⟩ (by unfold w_N; omega) ?_ ?_
    · rintro i ⟨i', k⟩ hi ⟨e, hf, hc⟩
      simp only at e hf hc
      subst e
      have k0 : k 0 = h 0 := hf 0 (by unfold stP; omega)
      have k11 : k 11 = h 11 := hf 11 (by unfold stP; omega)
      have e7 : bt (h 11 7) i = cl (ndc h n nw) n i i := by rw [w7]; simp [hi]
      simp (disch := omega) only [l_132_2, k0, k11, hn, u_lt, hi, if_true, u_ix, u_cl, w_gd, w_let, u_has, w6, e7, u_b01, u_S]
      refine ok_some ⟨rfl, w_fr_up hf rfl, fun c hci => ?_⟩
      dsimp only
      by_cases h1 : c = i
      · subst h1; rw [w_up_at]
      · rw [w_up_b h1]; exact hc c (by omega)
    · rintro ⟨i', k⟩ ⟨e, hf, hc⟩
      simp only at e hf hc
      subst e
      simp only [l_132_2]
      refine ok_F ?_ (ok_some ⟨hf, hc⟩)
      rw [hf 0 (by unfold stP; omega), hn, u_lt (by omega) (by omega)]; omega
  rintro g ⟨hg, hgi⟩
  have hL : (ordl n (ndc h n nw) (twh h n nw 26) n).length ≤ n := ordl_len n
  generalize hLe : (ordl n (ndc h n nw) (twh h n nw 26) n).length = L at *
  let nd := ndc h n nw
  let tw := twh h n nw 26
  refine ok_for (fun i s => s.1 = Int32.ofNat i ∧ w_fr stP h s.2 ∧ (∀ c, c ∈ ordl n nd tw i → s.2 3 c = stp n nd tw (own h n nw) (s.2 3) c) ∧ ∀ c, c < n → c ∉ ordl n nd tw i → s.2 3 c = if tw c = true then 5 else if cl nd n c c = true then 4 else 3) L ⟨rfl, hg, fun c hc => by simp [ordl] at hc, fun c hc _ => hgi c hc⟩ (by unfold w_N; omega) ?_ ?_
  · rintro i ⟨i', k⟩ hi ⟨e, hf, hm, hno⟩
    simp only at e hf hm hno
    subst e
    have k11 : k 11 = h 11 := hf 11 (by unfold stP; omega)
    have k16 : k 16 = h 16 := hf 16 (by unfold stP; omega)
    have hx := ordl_get (n := n) (nd := nd) (tw := tw) n i (by show i < (ordl n (ndc h n nw) (twh h n nw 26) n).length; rw [hLe]; exact hi)
    generalize hce : (ordl n nd tw n).getD i 0 = c at hx
    have ho : h 16 i = Int32.ofNat c := by rw [wo i hi]; exact congrArg Int32.ofNat hce
    obtain ⟨hcn, hcx, -⟩ := fst1_lt n hx
    simp only [nxf, Bool.and_eq_true, Bool.not_eq_true', decide_eq_false_iff_not] at hcx
    have hS : ordl n nd tw (i + 1) = ordl n nd tw i ++ [c] := by simp only [ordl, hx]
    have hnds : ∀ j, j < n → nd c j = true → j ∈ ordl n nd tw i := by
      intro j hj hnd
      by_cases hm2 : j ∈ ordl n nd tw i
      · exact hm2
      · have : anyb (fun j => nd c j && !decide (j ∈ ordl n nd tw i)) 32 = true := (anyb_iff 32).mpr ⟨j, by omega, by simp [hnd, hm2]⟩
        rw [hcx.1.2] at this; cases this
    have hok := hcx.1.1
    have hnb : ¬ tw c = true ∧ ¬ cl nd n c c = true := by
      unfold okb at hok
      simp only [Bool.not_eq_true'] at hok
      have hz : ∀ j, j < 32 → ¬ ((decide (j = c) || cl nd n c j) && (tw j || (decide (j < n) && cl nd n j j))) = true := by
        intro j hj hb
        have := (anyb_iff (f := fun j => (decide (j = c) || cl nd n c j) && (tw j || (decide (j < n) && cl nd n j j))) 32).mpr ⟨j, hj, hb⟩
        rw [hok] at this; cases this
      have h1 := hz c (by omega)
      simp only [decide_true, Bool.true_or, Bool.true_and, Bool.or_eq_true, Bool.and_eq_true, decide_eq_true_eq, not_or, not_and] at h1
      exact ⟨h1.1, h1.2 hcn⟩
    have e133 := s_133 (h := k) (n := n) (nw := nw) (c := c) h16 (by rw [hf 0 (by unfold stP; omega)]; exact hn) (by rw [hf 4 (by unfold stP; omega)]; exact hw) h4 hcn (fun j hj => by
      rw [hf 14 (by unfold stP; omega), (w14 c hcn).1 j hj]
      have := congrFun (congrFun (ndc_fs (n := n) (nw := nw) hf) c) j
      unfold ndh
      have e2 : ∀ x, dfh k n nw x = dfh h n nw x := fun x => by
        funext j; unfold dfh; rw [hf (64 * j + 55) (by unfold stP; omega), hf 5 (by unfold stP; omega)]
      have e3 : ∀ x, chh k n x = chh h n x := fun x => by
        funext j; unfold chh; rw [hf (64 * j + 55) (by unfold stP; omega)]
      simp only [e2, e3, hf (64 * c + 55) (by unfold stP; omega)]) (k 3) (fun _ _ => rfl)
    rw [ndc_fs hf, own_fr hf] at e133
    have ev : (if ∃ j, j < n ∧ ndc h n nw c j = true ∧ 2 ≤ k 3 j then (3 : Int32) else if ∃ j, j < n ∧ ndc h n nw c j = true ∧ k 3 j = 1 then 1 else own h n nw c) = stp n nd tw (own h n nw) (k 3) c := by
      unfold stp
      rw [if_neg hnb.1, if_neg hnb.2]
    rw [ev] at e133
    simp (disch := omega) only [l_132_31, k11, k16, w5, hLe, u_lt, hi, if_true, u_ix, u_cl, w_gd, ho, w_let, u_S]
    refine ok_bE e133 (ok_some ⟨rfl, w_fr_up hf rfl, ?_, ?_⟩)
    · intro d hd
      dsimp only
      rw [hS] at hd
      simp only [List.mem_append, List.mem_singleton] at hd
      have hsame : ∀ d, (∀ j, j < n → nd d j = true → j ∈ ordl n nd tw i) → stp n nd tw (own h n nw) (w_up k 3 c (stp n nd tw (own h n nw) (k 3) c) 3) d = stp n nd tw (own h n nw) (k 3) d := by
        intro d hdd
        have hv : ∀ j, j < n → nd d j = true → w_up k 3 c (stp n nd tw (own h n nw) (k 3) c) 3 j = k 3 j := by
          intro j hj hnd
          refine w_up_b ?_
          intro e; subst e
          exact hcx.2 (hdd j hj hnd)
        unfold stp
        have e1 : (∃ j, j < n ∧ nd d j = true ∧ 2 ≤ w_up k 3 c (stp n nd tw (own h n nw) (k 3) c) 3 j) ↔ (∃ j, j < n ∧ nd d j = true ∧ 2 ≤ k 3 j) :=
          ⟨fun ⟨j, a, b, z⟩ => ⟨j, a, b, hv j a b ▸ z⟩, fun ⟨j, a, b, z⟩ => ⟨j, a, b, (hv j a b).symm ▸ z⟩⟩
        have e2 : (∃ j, j < n ∧ nd d j = true ∧ w_up k 3 c (stp n nd tw (own h n nw) (k 3) c) 3 j = 1) ↔ (∃ j, j < n ∧ nd d j = true ∧ k 3 j = 1) :=
          ⟨fun ⟨j, a, b, z⟩ => ⟨j, a, b, hv j a b ▸ z⟩, fun ⟨j, a, b, z⟩ => ⟨j, a, b, (hv j a b).symm ▸ z⟩⟩
        unfold stp at e1 e2
        simp only [e1, e2]
      rcases hd with hd | rfl
      · have hdc : d ≠ c := fun e => hcx.2 (e ▸ hd)
        rw [w_up_b hdc, hsame d (fun j hj hnd => (ordl_mem i d hd).2.2 j (by omega) hnd)]
        exact hm d hd
      · rw [w_up_at, hsame d hnds]
    · intro d hdn hd
      dsimp only
      rw [hS] at hd
      simp only [List.mem_append, List.mem_singleton, not_or] at hd
      rw [w_up_b hd.2]
      exact hno d hdn hd.1
  · rintro ⟨i', k⟩ ⟨e, hf, hm, hno⟩
    simp only at e hf hm hno
    subst e
    have k11 : k 11 = h 11 := hf 11 (by unfold stP; omega)
    simp (disch := omega) only [l_132_31, k11, w5, hLe, u_lt, Nat.lt_irrefl, if_false]
    refine ok_some ⟨hf, fun c hc => ?_⟩
    have hLL : ordl n nd tw L = ordl n nd tw n := by
      rcases ordl_full (n := n) (nd := nd) (tw := tw) n with h1 | h1
      · have : L = n := by rw [← hLe]; exact h1
        rw [this]
      · rcases ordl_full (n := n) (nd := nd) (tw := tw) L with h2 | h2
        · -- L elements are there at L; none is added later
          have key : ∀ m, L ≤ m → m ≤ n → ordl n nd tw m = ordl n nd tw L := by
            intro m hm1
            induction hm1 with
            | refl => intro _; rfl
            | @step m hm1 ih =>
              intro hm2
              have ihm := ih (by omega)
              cases hx : fst1 (nxf n nd tw (ordl n nd tw m)) n with
              | none =>
                have : ordl n nd tw (m + 1) = ordl n nd tw m := by simp only [ordl, hx]
                rw [this, ihm]
              | some d =>
                exfalso
                have hS : ordl n nd tw (m + 1) = ordl n nd tw m ++ [d] := by simp only [ordl, hx]
                have hmono : ∀ a b, a ≤ b → (ordl n nd tw a).length ≤ (ordl n nd tw b).length := by
                  intro a b hab
                  induction hab with
                  | refl => exact Nat.le_refl _
                  | @step b _ ihb =>
                    refine Nat.le_trans ihb ?_
                    simp only [ordl]
                    split
                    · simp
                    · exact Nat.le_refl _
                have h3 := hmono (m + 1) n hm2
                rw [hS, ihm] at h3
                simp only [List.length_append, List.length_singleton, h2] at h3
                have : (ordl n nd tw n).length = L := hLe
                omega
          exact (key n hL (Nat.le_refl n)).symm
        · exact (ordl_stop h2 n hL).symm
    rw [hLL] at hm hno
    by_cases hcm : c ∈ ordl n nd tw n
    · exact hm c hcm
    · rw [hno c hc hcm]
      unfold stp
      by_cases ht : tw c = true
      · rw [if_pos ht, if_pos ht]
      rw [if_neg ht, if_neg ht]
      by_cases hr : cl nd n c c = true
      · rw [if_pos hr, if_pos hr]
      rw [if_neg hr, if_neg hr]
      have hout : ∃ j, j < n ∧ nd c j = true ∧ j ∉ ordl n nd tw n := by
        rcases ordl_out hc hcm with hb | ⟨j, hj, h1, h2⟩
        · unfold okb at hb
          simp only [Bool.not_eq_false'] at hb
          obtain ⟨b, hb32, hbb⟩ := (anyb_iff 32).mp hb
          simp only [Bool.and_eq_true, Bool.or_eq_true, decide_eq_true_eq] at hbb
          obtain ⟨hbc, hbar⟩ := hbb
          have hnb : ¬ b = c := by
            rintro rfl
            rcases hbar with h1 | h1
            · exact ht h1
            · exact hr h1.2
          have hcb : cl nd n c b = true := by
            rcases hbc with h1 | h1
            · exact absurd h1 hnb
            · exact h1
          have hbarred : ∀ d, d ∈ ordl n nd tw n → ¬ (d = b ∨ cl nd n d b = true) := by
            intro d hd hor
            have hod := (ordl_mem n d hd).2.1
            unfold okb at hod
            simp only [Bool.not_eq_true'] at hod
            have : anyb (fun j => (decide (j = d) || cl nd n d j) && (tw j || (decide (j < n) && cl nd n j j))) 32 = true := by
              refine (anyb_iff 32).mpr ⟨b, hb32, ?_⟩
              simp only [Bool.and_eq_true, Bool.or_eq_true, decide_eq_true_eq]
              exact ⟨hor.imp (fun e => e.symm) id, hbar⟩
            rw [hod] at this; cases this
          rcases cl_sound n c b hcb with h1 | ⟨k2, h1, h2⟩
          · exact ⟨b, ndc_lt h16 h1, h1, fun hm2 => hbarred b hm2 (Or.inl rfl)⟩
          · exact ⟨k2, ndc_lt h16 h1, h1, fun hm2 => hbarred k2 hm2 (Or.inr h2)⟩
        · exact ⟨j, ndc_lt h16 h1, h1, h2⟩
      obtain ⟨j, hj, h1, h2⟩ := hout
      have h3 : 2 ≤ k 3 j := by
        rw [hno j hj h2]
        split
        · decide
        · split <;> decide
      rw [if_pos ⟨j, hj, h1, h3⟩]
