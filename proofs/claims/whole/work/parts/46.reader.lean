/-! ===== reading: the class's recursive descent is rR, II ===== -/
def QQ (T : List Int32) (q : Nat) (h : Hp) (b : Bool) (s' : RS) (r : Int32 × Hp) : Prop := r.1 = ofB b ∧ rs T q r.2 s' ∧ rfr h r.2
def tail47 : ((Int32 × Hp) ⊕ Int32 × Hp) → Option (Int32 × Hp) := Sum.elim (fun yz12 => w_gd ((yz12.2 17 1) == 24) <| (p_10 yz12.2 24 10 yz12.1 (yz12.2 17 3)).bind fun vz15 => some (1, vz15)) (fun yz13 => some yz13)
section R46
variable {T : List Int32} {q : Nat}
theorem QQ_tr {h h1 : Hp} {b : Bool} {s' : RS} {r : Int32 × Hp} (a : rfr h h1) (x : QQ T q h1 b s' r) : QQ T q h b s' r := ⟨x.1, x.2.1, rfr_trans a x.2.2⟩
theorem rs24 {h : Hp} {s : RS} (H : rs T q h s) : (h 17 1 == 24) = true := by rw [H.2.2.2.1]; rfl
theorem ofB_bo {b : Bool} : w_bo (ofB b) = true := by cases b <;> rfl
theorem ofB_0 {b : Bool} : ofB b = 0 ↔ b = false := by cases b <;> simp [ofB]
/-- what is claimed of each kind of part -/
def CR (T : List Int32) (q w n d : Nat) (h : Hp) (s : RS) (b : Bool) (s' : RS) : Prop :=
  (w = 0 → 6 * (40 - s.1) + 4 ≤ n → ok (p_R n 42 (Int32.ofNat d) h) (QQ T q h b s')) ∧
  (w = 1 → 6 * (40 - s.1) + 3 ≤ n → ok (p_R n 43 (Int32.ofNat d) h) (QQ T q h b s')) ∧
  (w = 2 → 6 * (40 - s.1) + 2 ≤ n → ok (p_R n 44 (Int32.ofNat d) h) (QQ T q h b s')) ∧
  (w = 3 → 6 * (40 - s.1) + 1 ≤ n → ok (p_R n 45 (Int32.ofNat d) h) (QQ T q h b s')) ∧
  (w = 5 → 6 * (40 - s.1) ≤ n + 3 → ∀ c N, c ≤ s.1 → 41 ≤ N + c → 0 < N → ok (w_lp (fun (t : Int32 × Hp) => l_42_8 (p_R n) (Int32.ofNat d) t.1 t.2) N (Int32.ofNat c, h)) (QQ T q h b s')) ∧
  (w = 6 → 6 * (40 - s.1) ≤ n + 4 → ∀ c N, c ≤ s.1 → 41 ≤ N + c → 0 < N → ok (w_lp (fun (t : Int32 × Hp) => l_43_8 (p_R n) (Int32.ofNat d) t.1 t.2) N (Int32.ofNat c, h)) (QQ T q h b s')) ∧
  (w = 7 → ∀ c N, c ≤ s.1 → 41 ≤ N + c → 0 < N → ok (w_lp (fun (t : Int32 × Hp) => l_44_8 (p_R n) t.1 t.2) N (Int32.ofNat c, h)) (QQ T q h b s')) ∧
  (8 ≤ w → w ≤ 15 → 6 * (40 - s.1) + 4 ≤ n → ∀ N, 16 ≤ N + w → 0 < N → ok ((w_lp (fun (t : Int32 × Hp) => l_47_2 (p_R n) (Int32.ofNat d) t.1 t.2) N (Int32.ofNat (w - 7), h)).bind tail47) (QQ T q h b s'))
theorem pR47 {n d : Nat} {h : Hp} : p_R (n + 1) 47 (Int32.ofNat d) h = (w_lp (fun (t : Int32 × Hp) => l_47_2 (p_R n) (Int32.ofNat d) t.1 t.2) w_N (Int32.ofNat (8 - 7), h)).bind tail47 := rfl
theorem pR42 {n : Nat} {d : Int32} {h : Hp} : p_R (n + 1) 42 d h = p_42 (p_R n) h d := rfl
theorem pR43 {n : Nat} {d : Int32} {h : Hp} : p_R (n + 1) 43 d h = p_43 (p_R n) h d := rfl
theorem pR44 {n : Nat} {d : Int32} {h : Hp} : p_R (n + 1) 44 d h = p_44 (p_R n) h d := rfl
theorem pR45 {n : Nat} {d : Int32} {h : Hp} : p_R (n + 1) 45 d h = p_45 (p_R n) h d := rfl
theorem c_R : ∀ (f w : Nat) (s : RS) (b : Bool) (s' : RS), rR T f w s = some (b, s') → ∀ (h : Hp), rs T q h s → ∀ d n, d ≤ s.1 → CR T q w n d h s b s' := by
  intro f
  induction f with
  | zero => intro w s b s' h; cases h
  | succ f ih =>
    intro w s b s' hr h H d n hd
    have hT : T.length ≤ 40 := H.2.1.1
    have hp : s.1 ≤ T.length := H.2.2.2.2.2.1
    rw [rR] at hr
    refine ⟨?_, ?_, ?_, ?_, ?_, ?_, ?_, ?_⟩
    · -- expression
      intro hw hn
      subst hw
      obtain ⟨n, rfl⟩ : ∃ m, n = m + 1 := ⟨n - 1, by omega⟩
      rw [if_pos rfl] at hr
      rw [pR42]; unfold p_42
      rcases bb_some hr with ⟨s1, a1, a2⟩ | ⟨rfl, a1⟩
      · refine ok_bind ((ih _ _ _ _ a1 h H d n hd).2.1 rfl (by omega)) ?_
        rintro r ⟨r1, r2, r3⟩
        refine ok_F (by rw [r1]; decide) ?_
        have hm := (rR_mono _ _ _ _ _ a1).1
        refine ok_mono ((ih _ _ _ _ a2 r.2 r2 d n (by omega)).2.2.2.2.1 rfl (by omega) 0 w_N (Nat.zero_le _) (by decide) (by decide)) ?_
        intro x hx
        exact QQ_tr r3 hx
      · refine ok_bind ((ih _ _ _ _ a1 h H d n hd).2.1 rfl (by omega)) ?_
        rintro r ⟨r1, r2, r3⟩
        exact ok_T (by rw [r1]; rfl) (ok_some ⟨rfl, r2, r3⟩)
    · -- term
      intro hw hn
      subst hw
      obtain ⟨n, rfl⟩ : ∃ m, n = m + 1 := ⟨n - 1, by omega⟩
      rw [if_neg (by decide), if_pos rfl] at hr
      rw [pR43]; unfold p_43
      rcases bb_some hr with ⟨s1, a1, a2⟩ | ⟨rfl, a1⟩
      · refine ok_bind ((ih _ _ _ _ a1 h H d n hd).2.2.1 rfl (by omega)) ?_
        rintro r ⟨r1, r2, r3⟩
        refine ok_F (by rw [r1]; decide) ?_
        have hm := (rR_mono _ _ _ _ _ a1).1
        refine ok_mono ((ih _ _ _ _ a2 r.2 r2 d n (by omega)).2.2.2.2.2.1 rfl (by omega) 0 w_N (Nat.zero_le _) (by decide) (by decide)) ?_
        intro x hx
        exact QQ_tr r3 hx
      · refine ok_bind ((ih _ _ _ _ a1 h H d n hd).2.2.1 rfl (by omega)) ?_
        rintro r ⟨r1, r2, r3⟩
        exact ok_T (by rw [r1]; rfl) (ok_some ⟨rfl, r2, r3⟩)
    · -- factor
      intro hw hn
      subst hw
      obtain ⟨n, rfl⟩ : ∃ m, n = m + 1 := ⟨n - 1, by omega⟩
      rw [if_neg (by decide), if_neg (by decide), if_pos rfl] at hr
      rw [pR44]; unfold p_44
      rcases bb_some hr with ⟨s1, a1, a2⟩ | ⟨rfl, a1⟩
      · refine ok_bind ((ih _ _ _ _ a1 h H d n hd).2.2.2.1 rfl (by omega)) ?_
        rintro r ⟨r1, r2, r3⟩
        refine ok_F (by rw [r1]; decide) ?_
        have hm := (rR_mono _ _ _ _ _ a1).1
        refine ok_mono ((ih _ _ _ _ a2 r.2 r2 d n (by omega)).2.2.2.2.2.2.1 rfl 0 w_N (Nat.zero_le _) (by decide) (by decide)) ?_
        intro x hx
        exact QQ_tr r3 hx
      · refine ok_bind ((ih _ _ _ _ a1 h H d n hd).2.2.2.1 rfl (by omega)) ?_
        rintro r ⟨r1, r2, r3⟩
        exact ok_T (by rw [r1]; rfl) (ok_some ⟨rfl, r2, r3⟩)
    · -- part
      intro hw hn
      subst hw
      obtain ⟨n, rfl⟩ : ∃ m, n = m + 1 := ⟨n - 1, by omega⟩
      rw [if_neg (by decide), if_neg (by decide), if_neg (by decide), if_pos rfl] at hr
      rw [pR45]; unfold p_45
      refine ok_T ((u_leL (by omega) (by decide)).mpr (show d ≤ 40 by omega)) ?_
      rcases c_skip (x := 35) H (by decide) with ⟨c1, h1, a1, a2, a3⟩ | ⟨c1, a1⟩
      · rw [if_pos c1] at hr
        have hlt := cat_eq c1 (by decide)
        refine ok_bE a1 (ok_F (show ¬ (1 : Int32) = 0 by decide) ?_)
        rw [u_S]
        split at hr
        · rename_i b1 s1 hs1
          cases hr
          refine ok_bind ((ih _ _ _ _ hs1 h1 a2 (d + 1) n (by show d + 1 ≤ s.1 + 1; omega)).2.2.1 rfl (by show 6 * (40 - (s.1 + 1)) + 2 ≤ n; omega)) ?_
          rintro r ⟨r1, r2, r3⟩
          refine ok_gd (rs24 r2) ?_
          obtain ⟨h2, b1', b2, b3⟩ := c_add (k := 8) (d := 0) r2
          refine ok_bE b1' (ok_gd (by rw [r1]; exact ofB_bo) (ok_some ⟨r1, b2, rfr_trans a3 (rfr_trans r3 b3)⟩))
        · cases hr
      · rw [if_neg c1] at hr
        refine ok_bE a1 (ok_T rfl ?_)
        rcases c_skip (x := 40) H (by decide) with ⟨c2, h1, a1, a2, a3⟩ | ⟨c2, a1⟩
        · rw [if_pos c2] at hr
          have hlt := cat_eq c2 (by decide)
          refine ok_bE a1 (ok_F (show ¬ (1 : Int32) = 0 by decide) ?_)
          rw [u_S]
          rcases bb_some hr with ⟨s1, e1, e2⟩ | ⟨rfl, e1⟩
          · refine ok_bind ((ih _ _ _ _ e1 h1 a2 (d + 1) n (by show d + 1 ≤ s.1 + 1; omega)).1 rfl (by show 6 * (40 - (s.1 + 1)) + 4 ≤ n; omega)) ?_
            rintro r ⟨r1, r2, r3⟩
            refine ok_F (by rw [r1]; decide) ?_
            rcases c_skip (x := 41) r2 (by decide) with ⟨c3, h2, b1', b2, b3⟩ | ⟨c3, b1'⟩
            · rw [if_pos c3] at e2
              cases e2
              exact ok_bE b1' (ok_some ⟨rfl, b2, rfr_trans a3 (rfr_trans r3 b3)⟩)
            · rw [if_neg c3] at e2
              cases e2
              exact ok_bE b1' (ok_some ⟨rfl, r2, rfr_trans a3 r3⟩)
          · refine ok_bind ((ih _ _ _ _ e1 h1 a2 (d + 1) n (by show d + 1 ≤ s.1 + 1; omega)).1 rfl (by show 6 * (40 - (s.1 + 1)) + 4 ≤ n; omega)) ?_
            rintro r ⟨r1, r2, r3⟩
            exact ok_T (by rw [r1]; rfl) (ok_some ⟨rfl, r2, rfr_trans a3 r3⟩)
        · rw [if_neg c2] at hr
          refine ok_bE a1 (ok_T rfl ?_)
          rcases c_skip (x := 91) H (by decide) with ⟨c3, h1, a1, a2, a3⟩ | ⟨c3, a1⟩
          · rw [if_pos c3] at hr
            have hlt := cat_eq c3 (by decide)
            refine ok_bE a1 (ok_F (show ¬ (1 : Int32) = 0 by decide) ?_)
            rw [u_S]
            obtain ⟨n, rfl⟩ : ∃ m, n = m + 1 := ⟨n - 1, by omega⟩
            rw [pR47]
            refine ok_bind ((ih _ _ _ _ hr h1 a2 (d + 1) n (by show d + 1 ≤ s.1 + 1; omega)).2.2.2.2.2.2.2 (by decide) (by decide) (by show 6 * (40 - (s.1 + 1)) + 4 ≤ n; omega) w_N (by decide) (by decide)) ?_
            rintro r ⟨r1, r2, r3⟩
            exact ok_gd (by rw [r1]; exact ofB_bo) (ok_some ⟨r1, r2, rfr_trans a3 r3⟩)
          · rw [if_neg c3] at hr
            refine ok_bE a1 (ok_T rfl ?_)
            obtain ⟨h1, b1', b2, b3⟩ := c_46 H
            have e : rsp T s = (b, s') := Option.some.inj hr
            rw [e] at b1' b2
            exact ok_bE b1' (ok_gd ofB_bo (ok_some ⟨rfl, b2, b3⟩))
    · -- the rest of an expression
      intro hw hn c N hc hN hN0
      subst hw
      rw [if_neg (by decide), if_neg (by decide), if_neg (by decide), if_neg (by decide), if_pos rfl] at hr
      obtain ⟨N, rfl⟩ : ∃ m, N = m + 1 := ⟨N - 1, by omega⟩
      obtain ⟨e, g1, v1, g2, -, -⟩ := rs_at H
      rw [e] at g1
      by_cases hc4 : c < 40
      · have hlt : Int32.ofNat c < 40 := (u_ltL (by omega) (by decide)).mpr hc4
        have body : ∀ kk, cat T s.1 ≠ -1 → ¬ kk = (-1 : Int32) → bb (rR T f 1 (ra s)) (fun s' => rR T f 5 (re s' kk 0)) = some (b, s') → l_42_8 (p_R n) (Int32.ofNat d) (Int32.ofNat c) h = q_42_30 (p_R n) h (Int32.ofNat d) (Int32.ofNat c) kk → ok (w_lp (fun (t : Int32 × Hp) => l_42_8 (p_R n) (Int32.ofNat d) t.1 t.2) (N + 1) (Int32.ofNat c, h)) (QQ T q h b s') := by
          intro kk hcat hkk hb hl
          have hlt2 := cat_ne hcat
          have hup := rs_up (a := 0) H hlt2
          rcases bb_some hb with ⟨s1, e1, e2⟩ | ⟨rfl, e1⟩
          · obtain ⟨r, hr1, r1, r2, r3⟩ := (ih _ _ _ _ e1 _ hup d n (by show d ≤ s.1 + 1; omega)).2.1 rfl (by show 6 * (40 - (s.1 + 1)) + 3 ≤ n; omega)
            obtain ⟨h2, b1', b2, b3⟩ := c_add (k := kk) (d := 0) r2
            have hm := rR_mono _ _ _ _ _ e1
            have hm1 : s.1 + 1 ≤ s1.1 := hm.1
            have hstep : l_42_8 (p_R n) (Int32.ofNat d) (Int32.ofNat c) h = some (.inl (Int32.ofNat (c + 1), h2)) := by
              rw [hl]; unfold q_42_30
              rw [if_neg hkk]
              simp only [w_let, hr1, Option.bind_some]
              rw [if_neg (by rw [r1]; decide), rs24 r2, b1', u_S]
              rfl
            simp only [w_lp, hstep]
            refine ok_mono ((ih _ _ _ _ e2 h2 b2 d n (by show d ≤ s1.1; omega)).2.2.2.2.1 rfl (by show 6 * (40 - s1.1) ≤ n + 3; omega) (c + 1) N (by show c + 1 ≤ s1.1; omega) (by omega) (by omega)) ?_
            intro x hx
            exact QQ_tr (rfr_trans rfr_17 (rfr_trans r3 b3)) hx
          · obtain ⟨r, hr1, r1, r2, r3⟩ := (ih _ _ _ _ e1 _ hup d n (by show d ≤ s.1 + 1; omega)).2.1 rfl (by show 6 * (40 - (s.1 + 1)) + 3 ≤ n; omega)
            have hstep : l_42_8 (p_R n) (Int32.ofNat d) (Int32.ofNat c) h = some (.inr (0, r.2)) := by
              rw [hl]; unfold q_42_30
              rw [if_neg hkk]
              simp only [w_let, hr1, Option.bind_some]
              rw [if_pos (by rw [r1]; rfl)]
            exact ok_E (u_once (Nat.succ_pos _) hstep) ⟨rfl, r2, rfr_trans rfr_17 r3⟩
        by_cases c1 : cat T s.1 = 43
        · rw [if_pos c1] at hr
          refine body 4 (by rw [c1]; decide) (by decide) hr ?_
          unfold l_42_8
          rw [if_pos hlt, e, g1, g2, v1, if_pos c1]; rfl
        · rw [if_neg c1] at hr
          by_cases c2 : cat T s.1 = 45
          · rw [if_pos c2] at hr
            refine body 5 (by rw [c2]; decide) (by decide) hr ?_
            unfold l_42_8
            rw [if_pos hlt, e, g1, g2, v1, if_neg c1, if_pos c2]; rfl
          · rw [if_neg c2] at hr
            cases hr
            refine ok_E (u_once (Nat.succ_pos _) (e := (1, h)) ?_) ⟨rfl, H, rfr_refl⟩
            show l_42_8 (p_R n) (Int32.ofNat d) (Int32.ofNat c) h = _
            unfold l_42_8 q_42_30
            rw [if_pos hlt, e, g1, g2, v1, if_neg c1, if_neg c2]; rfl
      · have hcat : cat T s.1 = -1 := by unfold cat; rw [if_neg (by omega)]
        rw [if_neg (by rw [hcat]; decide), if_neg (by rw [hcat]; decide)] at hr
        cases hr
        refine ok_E (u_once (Nat.succ_pos _) (e := (1, h)) ?_) ⟨rfl, H, rfr_refl⟩
        show l_42_8 (p_R n) (Int32.ofNat d) (Int32.ofNat c) h = _
        unfold l_42_8
        rw [if_neg (fun e => hc4 ((u_ltL (by omega) (by decide)).mp e))]
    · -- the rest of a term
      intro hw hn c N hc hN hN0
      subst hw
      rw [if_neg (by decide), if_neg (by decide), if_neg (by decide), if_neg (by decide), if_neg (by decide), if_pos rfl] at hr
      obtain ⟨N, rfl⟩ : ∃ m, N = m + 1 := ⟨N - 1, by omega⟩
      by_cases hc4 : c < 40
      · have hlt : Int32.ofNat c < 40 := (u_ltL (by omega) (by decide)).mpr hc4
        rcases c_skip (x := 42) H (by decide) with ⟨c1, h1, a1, a2, a3⟩ | ⟨c1, a1⟩
        · rw [if_pos c1] at hr
          have hlt2 := cat_eq c1 (by decide)
          rcases bb_some hr with ⟨s1, e1, e2⟩ | ⟨rfl, e1⟩
          · obtain ⟨r, hr1, r1, r2, r3⟩ := (ih _ _ _ _ e1 _ a2 d n (by show d ≤ s.1 + 1; omega)).2.2.1 rfl (by show 6 * (40 - (s.1 + 1)) + 2 ≤ n; omega)
            obtain ⟨h2, b1', b2, b3⟩ := c_add (k := 6) (d := 0) r2
            have hm1 : s.1 + 1 ≤ s1.1 := (rR_mono _ _ _ _ _ e1).1
            have hstep : l_43_8 (p_R n) (Int32.ofNat d) (Int32.ofNat c) h = some (.inl (Int32.ofNat (c + 1), h2)) := by
              unfold l_43_8
              rw [if_pos hlt, a1]
              simp only [Option.bind_some]
              rw [if_neg (by decide), hr1]
              simp only [Option.bind_some]
              rw [if_neg (by rw [r1]; decide), rs24 r2, b1', u_S]
              rfl
            simp only [w_lp, hstep]
            refine ok_mono ((ih _ _ _ _ e2 h2 b2 d n (by show d ≤ s1.1; omega)).2.2.2.2.2.1 rfl (by show 6 * (40 - s1.1) ≤ n + 4; omega) (c + 1) N (by show c + 1 ≤ s1.1; omega) (by omega) (by omega)) ?_
            intro x hx
            exact QQ_tr (rfr_trans a3 (rfr_trans r3 b3)) hx
          · obtain ⟨r, hr1, r1, r2, r3⟩ := (ih _ _ _ _ e1 _ a2 d n (by show d ≤ s.1 + 1; omega)).2.2.1 rfl (by show 6 * (40 - (s.1 + 1)) + 2 ≤ n; omega)
            refine ok_E (u_once (Nat.succ_pos _) (e := (0, r.2)) ?_) ⟨rfl, r2, rfr_trans a3 r3⟩
            show l_43_8 (p_R n) (Int32.ofNat d) (Int32.ofNat c) h = _
            unfold l_43_8
            rw [if_pos hlt, a1]
            simp only [Option.bind_some]
            rw [if_neg (by decide), hr1]
            simp only [Option.bind_some]
            rw [if_pos (by rw [r1]; rfl)]
        · rw [if_neg c1] at hr
          cases hr
          refine ok_E (u_once (Nat.succ_pos _) (e := (1, h)) ?_) ⟨rfl, H, rfr_refl⟩
          show l_43_8 (p_R n) (Int32.ofNat d) (Int32.ofNat c) h = _
          unfold l_43_8
          rw [if_pos hlt, a1]; rfl
      · have hcat : cat T s.1 = -1 := by unfold cat; rw [if_neg (by omega)]
        rw [if_neg (by rw [hcat]; decide)] at hr
        cases hr
        refine ok_E (u_once (Nat.succ_pos _) (e := (1, h)) ?_) ⟨rfl, H, rfr_refl⟩
        show l_43_8 (p_R n) (Int32.ofNat d) (Int32.ofNat c) h = _
        unfold l_43_8
        rw [if_neg (fun e => hc4 ((u_ltL (by omega) (by decide)).mp e))]
    · -- the rest of a factor
      intro hw c N hc hN hN0
      subst hw
      rw [if_neg (by decide), if_neg (by decide), if_neg (by decide), if_neg (by decide), if_neg (by decide), if_neg (by decide), if_pos rfl] at hr
      obtain ⟨N, rfl⟩ : ∃ m, N = m + 1 := ⟨N - 1, by omega⟩
      by_cases hc4 : c < 40
      · have hlt : Int32.ofNat c < 40 := (u_ltL (by omega) (by decide)).mpr hc4
        rcases c_skip (x := 46) H (by decide) with ⟨c1, h1, a1, a2, a3⟩ | ⟨c1, a1⟩
        · rw [if_pos c1] at hr
          obtain ⟨e, g1, v1, g2, -, -⟩ := rs_at a2
          rw [e] at g1
          have v1' : v_58 h1 q (h1 17 2) = cat T (s.1 + 1) := v1
          by_cases c2 : isD (cat T (s.1 + 1)) = true
          · rw [if_pos c2] at hr
            obtain ⟨h2, b1', b2, b3⟩ := c_add (k := 7) (d := cat T (s.1 + 1) - 48) a2
            have hup := rs_up (a := 0) b2 (isD_lt c2)
            have hstep : l_44_8 (p_R n) (Int32.ofNat c) h = some (.inl (Int32.ofNat (c + 1), w_up h2 17 2 ((h2 17 2) + 1))) := by
              unfold l_44_8
              rw [if_pos hlt, a1]
              simp only [Option.bind_some]
              rw [if_neg (by decide), e, g1, g2, v1', s_124, if_neg (by rw [c2]; decide), rs24 a2]
              simp only [w_gd, b1', Option.bind_some, w_let, u_S]
            simp only [w_lp, hstep]
            refine ok_mono ((ih _ _ _ _ hr _ hup d n (by show d ≤ s.1 + 1 + 1; omega)).2.2.2.2.2.2.1 rfl (c + 1) N (by show c + 1 ≤ s.1 + 1 + 1; omega) (by omega) (by have := isD_lt c2; omega)) ?_
            intro x hx
            exact QQ_tr (rfr_trans a3 (rfr_trans b3 rfr_17)) hx
          · rw [if_neg c2] at hr
            cases hr
            refine ok_E (u_once (Nat.succ_pos _) (e := (0, h1)) ?_) ⟨rfl, a2, a3⟩
            show l_44_8 (p_R n) (Int32.ofNat c) h = _
            unfold l_44_8
            rw [if_pos hlt, a1]
            simp only [Option.bind_some]
            have c2' : isD (cat T (s.1 + 1)) = false := by simpa using c2
            rw [if_neg (by decide), e, g1, g2, v1', s_124, if_pos (by rw [c2']; rfl)]; rfl
        · rw [if_neg c1] at hr
          cases hr
          refine ok_E (u_once (Nat.succ_pos _) (e := (1, h)) ?_) ⟨rfl, H, rfr_refl⟩
          show l_44_8 (p_R n) (Int32.ofNat c) h = _
          unfold l_44_8
          rw [if_pos hlt, a1]; rfl
      · have hcat : cat T s.1 = -1 := by unfold cat; rw [if_neg (by omega)]
        rw [if_neg (by rw [hcat]; decide)] at hr
        cases hr
        refine ok_E (u_once (Nat.succ_pos _) (e := (1, h)) ?_) ⟨rfl, H, rfr_refl⟩
        show l_44_8 (p_R n) (Int32.ofNat c) h = _
        unfold l_44_8
        rw [if_neg (fun e => hc4 ((u_ltL (by omega) (by decide)).mp e))]
    · -- the rest of a row
      intro hw hw2 hn N hN hN0
      rw [if_neg (by omega), if_neg (by omega), if_neg (by omega), if_neg (by omega), if_neg (by omega), if_neg (by omega), if_neg (by omega)] at hr
      obtain ⟨N, rfl⟩ : ∃ m, N = m + 1 := ⟨N - 1, by omega⟩
      have hle : Int32.ofNat (w - 7) ≤ 8 := (u_leL (by omega) (by decide)).mpr (show w - 7 ≤ 8 by omega)
      rcases bb_some hr with ⟨s1, e1, e2⟩ | ⟨rfl, e1⟩
      · obtain ⟨r, hr1, r1, r2, r3⟩ := (ih _ _ _ _ e1 h H d n hd).1 rfl hn
        have hm := rR_mono _ _ _ _ _ e1
        have hm3 := hm.2.2 rfl (by decide) (by decide) (by decide)
        obtain ⟨h2, b1', b2, b3⟩ := c_add (k := 9) (d := 0) r2
        have base : ∀ X, (p_36 h2 93).bind (fun vz6 => if vz6.1 = 0 then (if Int32.ofNat (w - 7) = 8 then some (.inr (.inr (0, vz6.2))) else (p_36 vz6.2 44).bind fun vz9 => if vz9.1 = 0 then some (.inr (.inr (0, vz9.2))) else some (.inl (Int32.ofNat (w - 7) + 1, vz9.2))) else some (.inr (.inl (Int32.ofNat (w - 7), vz6.2)))) = X → l_47_2 (p_R n) (Int32.ofNat d) (Int32.ofNat (w - 7)) h = X := by
          intro X hX
          unfold l_47_2
          rw [if_pos hle, hr1]
          simp only [Option.bind_some]
          rw [if_neg (by rw [r1]; decide), rs24 r2, b1']
          simp only [w_gd, Option.bind_some]
          exact hX
        rcases c_skip (x := 93) b2 (by decide) with ⟨c1, h3, d1, d2, d3⟩ | ⟨c1, d1⟩
        · have c1' : cat T s1.1 = 93 := c1
          rw [if_pos c1'] at e2
          cases e2
          obtain ⟨h4, f1, f2, f3⟩ := c_add (k := 10) (d := Int32.ofNat (w - 7)) d2
          refine ok_bE (u_once (Nat.succ_pos _) (e := .inl (Int32.ofNat (w - 7), h3)) (base _ (by rw [d1]; rfl))) ?_
          simp only [tail47, Sum.elim_inl]
          refine ok_gd (rs24 d2) (ok_bE f1 (ok_some ⟨rfl, f2, rfr_trans r3 (rfr_trans b3 (rfr_trans d3 f3))⟩))
        · have c1' : ¬ cat T s1.1 = 93 := c1
          rw [if_neg c1'] at e2
          by_cases h15 : w = 15
          · rw [if_pos h15] at e2
            cases e2
            refine ok_bE (u_once (Nat.succ_pos _) (e := .inr (0, h2)) (base _ (by rw [d1]; subst h15; rfl))) ?_
            exact ok_some ⟨rfl, b2, rfr_trans r3 b3⟩
          · rw [if_neg h15] at e2
            have h8 : ¬ Int32.ofNat (w - 7) = 8 := fun e => by
              have : w - 7 = 8 := (u_eqL (by omega) (by decide)).mp e
              omega
            rcases c_skip (x := 44) b2 (by decide) with ⟨c2, h3, d4, d5, d6⟩ | ⟨c2, d4⟩
            · have c2' : cat T s1.1 = 44 := c2
              have hlt2 := cat_eq c2' (by decide)
              rw [if_pos c2'] at e2
              have hstep : l_47_2 (p_R n) (Int32.ofNat d) (Int32.ofNat (w - 7)) h = some (.inl (Int32.ofNat (w + 1 - 7), h3)) := by
                refine base _ ?_
                rw [d1]
                simp only [Option.bind_some, if_true, h8, if_false, d4]
                rw [if_neg (by decide), u_S, show w - 7 + 1 = w + 1 - 7 by omega]
              simp only [w_lp, hstep]
              refine ok_mono ((ih _ _ _ _ e2 h3 d5 d n (by show d ≤ s1.1 + 1; omega)).2.2.2.2.2.2.2 (by omega) (by omega) (by show 6 * (40 - (s1.1 + 1)) + 4 ≤ n; omega) N (by omega) (by omega)) ?_
              intro x hx
              exact QQ_tr (rfr_trans r3 (rfr_trans b3 d6)) hx
            · have c2' : ¬ cat T s1.1 = 44 := c2
              rw [if_neg c2'] at e2
              cases e2
              refine ok_bE (u_once (Nat.succ_pos _) (e := .inr (0, h2)) (base _ (by
                rw [d1]
                simp only [Option.bind_some, if_true, h8, if_false, d4]))) ?_
              exact ok_some ⟨rfl, b2, rfr_trans r3 b3⟩
      · obtain ⟨r, hr1, r1, r2, r3⟩ := (ih _ _ _ _ e1 h H d n hd).1 rfl hn
        refine ok_bE (a := Sum.inr (0, r.2)) (u_once (Nat.succ_pos _) ?_) ?_
        rotate_left
        · exact ok_some ⟨rfl, r2, r3⟩
        show l_47_2 (p_R n) (Int32.ofNat d) (Int32.ofNat (w - 7)) h = _
        unfold l_47_2
        rw [if_pos hle, hr1]
        simp only [Option.bind_some]
        rw [if_pos (by rw [r1]; rfl)]
end R46
