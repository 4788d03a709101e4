/-! ===== the model's plain program ===== -/
section M42
variable {h m : Hp} {n nw : Nat}
theorem tw_lt {j : Nat} (h16 : n ≤ 16) (ht : twh h n nw 26 j = true) : j < n := by
  unfold twh at ht
  obtain ⟨x, hx, h1⟩ := (anyb_iff 26).mp ht
  simp only [Bool.and_eq_true, decide_eq_true_eq] at h1
  have h2 := h1.2.1
  unfold dfh at h2
  simp only [Bool.or_eq_true, Bool.and_eq_true, decide_eq_true_eq] at h2
  rcases h2 with h2 | h2
  · exact h2.1
  · omega
theorem st_4 {ow s : Nat → Int32} {c : Nat} (hs : isSt n (ndc h n nw) (twh h n nw 26) ow s) (how : ∀ c, c < n → ow c < 4) (hc : c < n) : (¬ s c < 4) ↔ (twh h n nw 26 c = true ∨ cl (ndc h n nw) n c c = true) := by
  rw [hs c hc]; unfold stp
  by_cases ht : twh h n nw 26 c = true
  · rw [if_pos ht]; simp [ht]
  · by_cases hr : cl (ndc h n nw) n c c = true
    · rw [if_neg ht, if_pos hr]; simp [hr]
    · rw [if_neg ht, if_neg hr]
      simp only [ht, hr, or_self, iff_false, Bool.false_eq_true]
      intro h1
      apply h1
      split
      · decide
      · split
        · decide
        · exact how c hc
theorem m_239a {g : Hp} {x1 x2 : Int32} {l : List Nat} (h16 : n ≤ 16) (hn : g 1076 2 = Int32.ofNat n) (hL : LK h g n nw) (hb : ∀ j, j < 32 → bt x1 j = (decide (j < n) && (twh h n nw 26 j || cl (ndc h n nw) n j j))) (hp : ∀ j, j < 32 → bt x2 j = decide (j ∈ l)) : w_lp (fun (q : Int32 × Int32) => l_239_42 g x1 x2 q.1 q.2) w_N ((-1), (g 1076 2) - 1) = some (oi (fst1 (nxf n (ndc h n nw) (twh h n nw 26) l) n)) := by
  let nd := ndc h n nw
  let tw := twh h n nw 26
  have hok : ∀ c, c < n → okb n nd tw c = (!bt x1 c && !anyb (fun j => cl nd n c j && bt x1 j) 32) := by
    intro c hc
    unfold okb
    have e : anyb (fun j => (decide (j = c) || cl nd n c j) && (tw j || (decide (j < n) && cl nd n j j))) 32 = (bt x1 c || anyb (fun j => cl nd n c j && bt x1 j) 32) := by
      have hx : ∀ j, j < 32 → (tw j || (decide (j < n) && cl nd n j j)) = bt x1 j := by
        intro j hj
        rw [hb j hj]
        by_cases hjn : j < n
        · simp [hjn, tw, nd]
        · have : tw j = false := by
            cases ht : tw j with
            | false => rfl
            | true => exact absurd (tw_lt h16 ht) hjn
          simp [hjn, this]
      rw [anyb_congr (g := fun j => (decide (j = c) || cl nd n c j) && bt x1 j) 32 (fun j hj => by rw [hx j hj])]
      cases hx1 : bt x1 c with
      | true =>
        rw [Bool.true_or]
        exact (anyb_iff 32).mpr ⟨c, by omega, by simp [hx1]⟩
      | false =>
        rw [Bool.false_or]
        refine anyb_congr 32 (fun j hj => ?_)
        by_cases ej : j = c
        · subst ej; rw [hx1]; simp
        · simp [ej]
    rw [e]
    cases bt x1 c <;> cases anyb (fun j => cl nd n c j && bt x1 j) 32 <;> rfl
  have hstart : g 1076 2 - 1 = Int32.ofNat n + (-1) := by rw [hn]; grind
  rw [hstart]
  have key : ∀ k N, k ≤ n → k < N → w_lp (fun (q : Int32 × Int32) => l_239_42 g x1 x2 q.1 q.2) N (oi (fst1 (fun i => decide (k ≤ i) && nxf n nd tw l i) n), Int32.ofNat k + (-1)) = some (oi (fst1 (nxf n nd tw l) n)) := by
    intro k
    induction k with
    | zero =>
      intro N _ hN
      have e : fst1 (fun i => decide (0 ≤ i) && nxf n nd tw l i) n = fst1 (nxf n nd tw l) n := fst1_congr n (fun i _ => by simp)
      rw [e]
      exact u_once (by omega) (by simp only [l_239_42]; rw [if_pos (by decide)])
    | succ k ih =>
      intro N hk hN
      obtain ⟨N, rfl⟩ : ∃ q, N = q + 1 := ⟨N - 1, by omega⟩
      rw [u_pred]
      have ihk := ih N (by omega) (by omega)
      rw [fst1_step (by omega)] at ihk
      have hstep : l_239_42 g x1 x2 (oi (fst1 (fun i => decide (k + 1 ≤ i) && nxf n nd tw l i) n)) (Int32.ofNat k) = some (.inl (oi (if nxf n nd tw l k = true then some k else fst1 (fun i => decide (k + 1 ≤ i) && nxf n nd tw l i) n), Int32.ofNat k + (-1))) := by
        have hlt : ¬ Int32.ofNat k < 0 := u_lt0 (by omega)
        have z1 := u_z0 (x := (g 1121 k) &&& x1) (f := fun j => cl nd n k j && bt x1 j) (fun j hj => by rw [bt_and, (hL k (by omega) j hj).2])
        have z2 := u_z0 (x := ((g 1120 k) &&& 65535) &&& (x2 ^^^ (-1))) (f := fun j => nd k j && !decide (j ∈ l)) (fun j hj => by
          rw [bt_and, bt_and, bt_not hj, u_all, (hL k (by omega) j hj).1, hp j hj]; rfl)
        simp (disch := omega) only [l_239_42, q_239_77, hlt, if_false, bt_shr, u_b01, u_ix, u_cl, w_gd, z1, z2, ite_self, Bool.true_and]
        have hx : nxf n nd tw l k = (((!bt x1 k && !anyb (fun j => cl nd n k j && bt x1 j) 32) && !anyb (fun j => nd k j && !decide (j ∈ l)) 32) && !bt x2 k) := by
          unfold nxf; rw [hok k (by omega), hp k (by omega)]
        rw [hx]
        cases bt x1 k <;> cases bt x2 k <;> cases anyb (fun j => cl nd n k j && bt x1 j) 32 <;> cases anyb (fun j => nd k j && !decide (j ∈ l)) 32 <;> simp [oi]
      simp only [w_lp, hstep]
      exact ihk
  have e : fst1 (fun i => decide (n ≤ i) && nxf n nd tw l i) n = none := by
    cases hh : fst1 (fun i => decide (n ≤ i) && nxf n nd tw l i) n with
    | none => rfl
    | some q =>
      obtain ⟨a, b, -⟩ := fst1_lt n hh
      simp at b; omega
  have := key n w_N (Nat.le_refl n) (by unfold w_N; omega)
  rw [e] at this
  exact this
def orP (q : Nat) : Prop := lkP q ∨ q = 1126 ∨ q = 1076
theorem m_239 (H : MW h m n nw) {ow : Nat → Int32} (how : ∀ c, c < n → 0 ≤ ow c ∧ ow c < 4) (hown : ∀ g c, w_fr lkP m g → LK h g n nw → c < n → p_187 g (Int32.ofNat c) = some (ow c)) : ok (p_239 m) (fun g => w_fr orP m g ∧ (∀ b, b ≠ 64 → g 1076 b = m 1076 b) ∧ LK h g n nw ∧ isSt n (ndc h n nw) (twh h n nw 26) ow (g 1122) ∧ g 1076 64 = Int32.ofNat (ordl n (ndc h n nw) (twh h n nw 26) n).length ∧ ∀ i, i < (ordl n (ndc h n nw) (twh h n nw 26) n).length → g 1126 i = Int32.ofNat ((ordl n (ndc h n nw) (twh h n nw 26) n).getD i 0)) := by
  have h16 := H.1
  let nd := ndc h n nw
  let tw := twh h n nw 26
  unfold p_239
  refine ok_bind (m_188 H (fun c hc => (how c hc).1) hown) ?_
  rintro g1 ⟨f1, L1, S1⟩
  simp only [w_let]
  generalize hg2 : w_up g1 1076 64 0 = g2
  have q2 : ∀ q, q ≠ 1076 → g2 q = g1 q := fun q hq => by rw [← hg2]; exact w_up_ne hq
  have b2 : ∀ b, b ≠ 64 → g2 1076 b = m 1076 b := fun b hb => by rw [← hg2, w_up_b hb, f1 1076 (by unfold lkP; omega)]
  have n2 : g2 1076 2 = Int32.ofNat n := by rw [b2 2 (by decide)]; exact H.2.2.1
  have L2 : LK h g2 n nw := LK_fr L1 (q2 _ (by decide)) (q2 _ (by decide))
  have S2 : isSt n nd tw ow (g2 1122) := by rw [q2 1122 (by decide)]; exact S1
  have e9 : w_lp (fun (q : Int32 × Int32) => l_239_9 g2 q.1 q.2) w_N (0, 0) = some (sbo (fun j => tw j || cl nd n j j) 0 n) := by
    refine u_for (N := w_N) (fun i => (sbo (fun j => tw j || cl nd n j j) 0 i, Int32.ofNat i)) n (by unfold w_N; omega) ?_ ?_
    · intro i hi
      have h4 := st_4 S2 (fun c hc => (how c hc).2) hi
      simp (disch := omega) only [l_239_9, n2, u_lt, hi, if_true, u_ix, u_cl, w_gd, u_S, sbo, Nat.zero_add]
      by_cases s1 : g2 1122 i < 4
      · have : (tw i || cl nd n i i) = false := by
          cases hh : (tw i || cl nd n i i) with
          | false => rfl
          | true => exact absurd s1 (h4.mpr (by simpa using hh))
        simp [s1, this]
      · have : (tw i || cl nd n i i) = true := by simpa using h4.mp s1
        simp [s1, this]
    · simp (disch := omega) only [l_239_9, n2, u_lt, Nat.lt_irrefl, if_false]
  rw [e9]
  simp only [Option.bind_some]
  have hb : ∀ j, j < 32 → bt (sbo (fun j => tw j || cl nd n j j) 0 n) j = (decide (j < n) && (tw j || cl nd n j j)) := by
    intro j hj
    rw [bt_sbo _ _ (by omega)]; simp
  generalize sbo (fun j => tw j || cl nd n j j) 0 n = x1 at *
  have hlen : ∀ i, (ordl n nd tw i).length ≤ n := fun i => by rw [← ordl_cnt (n := n) i]; exact cnt_le _ n
  refine ok_wh (fun M s => ∃ i, i ≤ n ∧ (∀ j, j < 32 → bt s.1 j = decide (j ∈ ordl n nd tw i)) ∧ (∀ q, q ≠ 1126 → q ≠ 1076 → s.2.2 q = g2 q) ∧ (∀ b, b ≠ 64 → s.2.2 1076 b = m 1076 b) ∧ s.2.2 1076 64 = Int32.ofNat (ordl n nd tw i).length ∧ (∀ k, k < (ordl n nd tw i).length → s.2.2 1126 k = Int32.ofNat ((ordl n nd tw i).getD k 0)) ∧ ((s.2.1 = 0 ∧ M = 0 ∧ fst1 (nxf n nd tw (ordl n nd tw i)) n = none) ∨ (s.2.1 = 1 ∧ (ordl n nd tw i).length = i ∧ M = n + 1 - i))) ?_ (n + 1) (0, 1, g2) w_N ⟨0, Nat.zero_le n, fun j _ => by show bt 0 j = _; rw [bt_zero]; rfl, fun _ _ _ => rfl, b2, (by show g2 1076 64 = 0; rw [← hg2, w_up_at]), fun k hk => by simp [ordl] at hk, Or.inr ⟨rfl, rfl, rfl⟩⟩ (by unfold w_N; omega)
  rintro M ⟨x2, z, g⟩ ⟨i, hi, hx, hq, hb6, h64, h26, hor⟩
  simp only at hx hq hb6 h64 h26 hor
  simp only [l_239_33]
  rcases hor with ⟨e, -, hD⟩ | ⟨e, hl, hM⟩
  · subst e
    have hst := ordl_stop hD n hi
    refine ok_T rfl (ok_some ⟨fun q hq2 => ?_, hb6, LK_fr L2 (hq _ (by decide) (by decide)) (hq _ (by decide) (by decide)), ?_, ?_, ?_⟩)
    · have h1 : q ≠ 1126 := fun e => hq2 (Or.inr (Or.inl e))
      have h2 : q ≠ 1076 := fun e => hq2 (Or.inr (Or.inr e))
      show g q = m q
      rw [hq q h1 h2, q2 q h2]
      exact f1 q (fun e => hq2 (Or.inl e))
    · show isSt n nd tw ow (g 1122)
      rw [hq 1122 (by decide) (by decide)]; exact S2
    · show g 1076 64 = Int32.ofNat (ordl n nd tw n).length
      rw [hst]; exact h64
    · show ∀ i, i < (ordl n nd tw n).length → g 1126 i = Int32.ofNat ((ordl n nd tw n).getD i 0)
      rw [hst]; exact h26
  · subst e
    refine ok_F (by decide) ?_
    have Lg : LK h g n nw := LK_fr L2 (hq _ (by decide) (by decide)) (hq _ (by decide) (by decide))
    rw [m_239a (l := ordl n nd tw i) h16 (by rw [hb6 2 (by decide)]; exact H.2.2.1) Lg hb hx]
    simp only [Option.bind_some]
    have hm := oi_m1 (o := fst1 (nxf n nd tw (ordl n nd tw i)) n) (n := n) (fun c hc => (fst1_lt n hc).1) (by omega)
    cases hc : fst1 (nxf n nd tw (ordl n nd tw i)) n with
    | none =>
      rw [hc] at hm
      have e0 : (if oi none = -1 then (0 : Int32) else 1) = 0 := rfl
      rw [e0]
      simp only [q_239_92, if_true]
      exact ok_some ⟨0, by omega, i, hi, hx, hq, hb6, h64, h26, Or.inl ⟨rfl, rfl, hc⟩⟩
    | some c =>
      rw [hc] at hm
      have hcl := (fst1_lt n hc).1
      have hS : ordl n nd tw (i + 1) = ordl n nd tw i ++ [c] := by simp only [ordl, hc]
      have hin : i + 1 ≤ n := by
        have := hlen (i + 1)
        rw [hS] at this; simp at this; omega
      have ho : oi (some c) = Int32.ofNat c := rfl
      have e0 : (if Int32.ofNat c = -1 then (0 : Int32) else 1) = 1 := if_neg (fun e => by cases hm.mp e)
      rw [ho, e0]
      simp (disch := omega) only [q_239_92, show ¬ ((1 : Int32) = 0) by decide, if_false, h64, u_ix, u_cl, w_gd, w_let, w_up_q, u_S]
      refine ok_some ⟨n - i, by omega, i + 1, hin, fun j hj => ?_, fun q h1 h2 => ?_, fun b hb64 => ?_, ?_, fun k hk => ?_, Or.inr ⟨rfl, ?_, by omega⟩⟩ <;> (try dsimp only)
      · rw [bt_or, hx j hj, bt_one (by omega), hS]; simp [List.mem_append]
      · rw [w_up_ne h2, w_up_ne h1]; exact hq q h1 h2
      · rw [w_up_b hb64, w_up_q (by decide)]; exact hb6 b hb64
      · rw [w_up_at, hS]; simp
      · rw [hS] at hk ⊢
        rw [w_up_q (by decide)]
        by_cases h1 : k = (ordl n nd tw i).length
        · subst h1; rw [w_up_at]; simp
        · rw [w_up_b h1, h26 k (by simp at hk; omega)]
          have : k < (ordl n nd tw i).length := by simp at hk; omega
          simp [List.getElem?_append, this]
      · rw [hS]; simp [hl]
end M42
