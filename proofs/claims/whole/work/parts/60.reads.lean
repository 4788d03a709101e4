/-! ===== the model reads the sets of statements as the class does ===== -/
def rdsP (q : Nat) : Prop := q = 1076 ∨ q = 1083 ∨ q = 1084 ∨ q = 1085
/-- what reading the sets of the cell c leaves -/
def rfm (c : Nat) (m m' : Hp) : Prop := w_fr rdsP m m' ∧ (∀ b, b ≠ 67 → m' 1076 b = m 1076 b) ∧ ∀ k, k ≠ c → m' 1083 k = m 1083 k ∧ m' 1084 k = m 1084 k ∧ m' 1085 k = m 1085 k
theorem rfm_refl {c : Nat} {m : Hp} : rfm c m m := ⟨w_fr_refl _ _, fun _ _ => rfl, fun _ _ => ⟨rfl, rfl, rfl⟩⟩
theorem rfm_trans {c : Nat} {a b d : Hp} (x : rfm c a b) (y : rfm c b d) : rfm c a d := ⟨w_fr_trans x.1 y.1, fun k h => (y.2.1 k h).trans (x.2.1 k h), fun k h => ⟨(y.2.2 k h).1.trans (x.2.2 k h).1, (y.2.2 k h).2.1.trans (x.2.2 k h).2.1, (y.2.2 k h).2.2.trans (x.2.2 k h).2.2⟩⟩
theorem rfm_67 {c : Nat} {m : Hp} {x : Int32} : rfm c m (w_up m 1076 67 x) := by
  refine ⟨w_fr_up (w_fr_refl _ _) (Or.inl rfl), fun b h => w_up_b h, fun k _ => ?_⟩
  rw [w_up_q (by decide), w_up_q (by decide), w_up_q (by decide)]; exact ⟨rfl, rfl, rfl⟩
theorem rfm_c {c q : Nat} {m : Hp} {x : Int32} (hq : q = 1083 ∨ q = 1084 ∨ q = 1085) : rfm c m (w_up m q c x) := by
  refine ⟨w_fr_up (w_fr_refl _ _) (by unfold rdsP; omega), fun b h => w_up_q (by omega), fun k h => ?_⟩
  rw [w_up_b h, w_up_b h, w_up_b h]; exact ⟨rfl, rfl, rfl⟩
section S60
variable {T : List Int32}
theorem ld_rfm {c : Nat} {m m' : Hp} (h : ld T m) (hs : rfm c m m') : ld T m' := by
  obtain ⟨a, b, d⟩ := h
  refine ⟨a, (hs.2.1 66 (by decide)).trans b, fun i hi => ?_⟩
  rw [hs.1 1127 (by unfold rdsP; omega)]; exact d i hi
theorem v162_L {x : Int32} {l : Nat} (hl : l < 26) (e : x = Int32.ofNat (97 + l)) : v_162 x = 1 <<< (Int32.ofNat l &&& 31) := by rw [e]; exact s_162 hl
/-- the letters up to the next ; -/
theorem m_164a {x1 x2 x4 x5 : Int32} {r : Nat} (hr : r ≤ T.length) (hend : r = T.length ∨ cat T r = 59) : ∀ (k p : Nat) (x6 : Int32) (m : Hp) (N : Nat), p + k = r → ma T m p → (∀ i, p ≤ i → i < r → ¬ cat T i = 59) → k < N → ∃ y, w_lp (fun (s : Int32 × Hp) => l_164_48 x1 x2 x4 x5 s.1 s.2) N (x6, m) = some (y, w_up m 1076 67 (Int32.ofNat r)) ∧ ∀ j, j < 32 → bt y j = (bt x6 j || lbt T p r j) := by
  intro k
  induction k with
  | zero =>
    intro p x6 m N hk H hn hN
    have hp : p = r := by omega
    subst hp
    have h40 := H.1.1
    refine ⟨x6, u_once hN ?_, fun j _ => by rw [lbt_self]; simp⟩
    have hm : w_up m 1076 67 (Int32.ofNat p) = m := by rw [← H.2.1, w_up_self]
    rw [hm]
    show l_164_48 x1 x2 x4 x5 x6 m = _
    unfold l_164_48
    rw [H.2.1, H.1.2.1]
    simp only [u_lt (show p < 2147483648 by omega) (show T.length < 2147483648 by omega)]
    by_cases c : p < T.length
    · rw [if_pos c]
      have h59 : cat T p = 59 := hend.elim (fun h => by omega) id
      have e0 : m 1127 p = cat T p := by rw [H.1.2.2 p c]; unfold cat; rw [if_pos c]
      simp (disch := omega) only [u_ix, u_cl, w_gd, e0, h59, if_true]
    · rw [if_neg c]
  | succ k ih =>
    intro p x6 m N hk H hn hN
    obtain ⟨N, rfl⟩ : ∃ q, N = q + 1 := ⟨N - 1, by omega⟩
    have h40 := H.1.1
    have c : p < T.length := by omega
    have h59 := hn p (Nat.le_refl _) (by omega)
    have e0 : m 1127 p = cat T p := by rw [H.1.2.2 p c]; unfold cat; rw [if_pos c]
    have H1 : ma T (w_up m 1076 67 (Int32.ofNat (p + 1))) (p + 1) := ⟨ld_sfr H.1 (sfr_up sfr_refl (Or.inr (Or.inr ⟨rfl, Or.inl rfl⟩))), w_up_at, c⟩
    have hlt : m 1076 67 < m 1076 66 := by rw [H.2.1, H.1.2.1]; exact (u_lt (by omega) (by omega)).mpr c
    by_cases hL : isL (cat T p) = true
    · obtain ⟨l, hl, e1, e2⟩ := L_nat hL
      have hstep : l_164_48 x1 x2 x4 x5 x6 m = some (.inl (x6 ||| (1 <<< (Int32.ofNat l &&& 31)), w_up m 1076 67 (Int32.ofNat (p + 1)))) := by
        unfold l_164_48 q_164_76
        rw [if_pos hlt, H.2.1]
        simp (disch := omega) only [u_ix, u_cl, w_gd, e0, h59, if_false, m_148, hL, ite_self, w_let, u_S]
        rw [if_neg (by decide), v162_L hl e1]
      obtain ⟨y, a1, a2⟩ := ih (p + 1) (x6 ||| (1 <<< (Int32.ofNat l &&& 31))) _ N (by omega) H1 (fun i h1 h2 => hn i (by omega) h2) (by omega)
      rw [w_up_up] at a1
      refine ⟨y, ?_, fun j hj => ?_⟩
      · simp only [w_lp, hstep]; exact a1
      · rw [a2 j hj, bt_or, bt_one (by omega), lbt_add (Nat.le_succ p) (by omega : p + 1 ≤ r), lbt_1]
        have hlb : lb T p j = decide (j = l) := by
          unfold lb
          rw [hL, e1, Bool.true_and]
          simp only [u_inj (show 97 + l < 2147483648 by omega) (show 97 + j < 2147483648 by omega), decide_eq_decide]
          omega
        rw [hlb, Bool.or_assoc]
    · have hL' : isL (cat T p) = false := by simpa using hL
      have hstep : l_164_48 x1 x2 x4 x5 x6 m = some (.inl (x6 ||| 0, w_up m 1076 67 (Int32.ofNat (p + 1)))) := by
        unfold l_164_48 q_164_76
        rw [if_pos hlt, H.2.1]
        simp (disch := omega) only [u_ix, u_cl, w_gd, e0, h59, if_false, m_148, hL', ite_self, w_let, u_S]
        rw [if_pos (by rfl)]
      obtain ⟨y, a1, a2⟩ := ih (p + 1) (x6 ||| 0) _ N (by omega) H1 (fun i h1 h2 => hn i (by omega) h2) (by omega)
      rw [w_up_up] at a1
      refine ⟨y, ?_, fun j hj => ?_⟩
      · simp only [w_lp, hstep]; exact a1
      · rw [a2 j hj, bt_or, bt_zero, Bool.or_false, lbt_add (Nat.le_succ p) (by omega : p + 1 ≤ r), lbt_1, lb_no hL, Bool.false_or]
/-- the sets of the cell c -/
def sts (m : Hp) (c : Nat) (df ch us : Int32) : Prop := m 1083 c = df ∧ m 1084 c = ch ∧ m 1085 c = us
/-- names that are known and not defined are used -/
def knI (s : RS) : Prop := ∀ j, j < 32 → bt s.2.2.2.1 j = true → bt s.2.2.2.2.1 j = true ∨ bt s.2.2.2.2.2.2 j = true
/-- one statement, as the class reads it -/
theorem rst_US (hT : T.length ≤ 40) {s : RS} (hp : s.1 ≤ T.length) (h : (rst T s).1 = true) : ∃ (p1 : Nat) (s1 : RS), p1 = (if sgn T s.1 = 61 ∨ sgn T s.1 = 33 then s.1 + 2 else s.1) ∧ (rst T s).2.1 = s1.1 ∧ p1 < s1.1 ∧ s1.1 ≤ T.length ∧ (∀ i, p1 ≤ i → i < s1.1 → ¬ cat T i = 59) ∧ s1.2.2.2.1 = s.2.2.2.1 ∧ s1.2.2.2.2.1 = s.2.2.2.2.1 ∧ s1.2.2.2.2.2.1 = s.2.2.2.2.2.1 ∧ (∀ j, j < 32 → bt s1.2.2.2.2.2.2 j = (bt s.2.2.2.2.2.2 j || (lbt T p1 s1.1 j && !bt s.2.2.2.1 j))) ∧
    (sgn T s.1 = 61 → (rst T s).2.2.2.2 = (s.2.2.2.1 ||| (1 <<< ((cat T s.1 - 97) &&& 31)), s.2.2.2.2.1 ||| (1 <<< ((cat T s.1 - 97) &&& 31)), s.2.2.2.2.2.1, s1.2.2.2.2.2.2)) ∧
    (sgn T s.1 = 33 → (rst T s).2.2.2.2 = (if v_126 s.2.2.2.2.1 (cat T s.1 - 97) = 0 then (s.2.2.2.1 ||| (1 <<< ((cat T s.1 - 97) &&& 31)), s.2.2.2.2.1, s.2.2.2.2.2.1 ||| (1 <<< ((cat T s.1 - 97) &&& 31)), s1.2.2.2.2.2.2 ||| (1 <<< ((cat T s.1 - 97) &&& 31))) else (s.2.2.2.1 ||| (1 <<< ((cat T s.1 - 97) &&& 31)), s.2.2.2.2.1, s.2.2.2.2.2.1, s1.2.2.2.2.2.2))) ∧
    (¬ sgn T s.1 = 61 → ¬ sgn T s.1 = 33 → (rst T s).2.2.2.2 = (s.2.2.2.1, s.2.2.2.2.1, s.2.2.2.2.2.1, s1.2.2.2.2.2.2)) := by
  have base : ∀ s0 : RS, s0.1 ≤ T.length → s0.2.2.2 = s.2.2.2 → (rex T s0).1 = true → s0.1 < (rex T s0).2.1 ∧ (rex T s0).2.1 ≤ T.length ∧ (∀ i, s0.1 ≤ i → i < (rex T s0).2.1 → ¬ cat T i = 59) ∧ (rex T s0).2.2.2.2.1 = s.2.2.2.1 ∧ (rex T s0).2.2.2.2.2.1 = s.2.2.2.2.1 ∧ (rex T s0).2.2.2.2.2.2.1 = s.2.2.2.2.2.1 ∧ (∀ j, j < 32 → bt (rex T s0).2.2.2.2.2.2.2 j = (bt s.2.2.2.2.2.2 j || (lbt T s0.1 (rex T s0).2.1 j && !bt s.2.2.2.1 j))) := by
    intro s0 h0 h1 hb
    have e := rex_E hT h0
    rw [show rex T s0 = (true, (rex T s0).2) by rw [← hb]] at e
    have hm := rR_mono 400 0 s0 true (rex T s0).2 e
    obtain ⟨u1, u2, u3, u4, u5, u6⟩ := rR_US 400 0 s0 (rex T s0).2 e
    obtain ⟨n1, n2⟩ := rR_NS 400 0 s0 (rex T s0).2 e
    have k1 : s0.2.2.2.1 = s.2.2.2.1 := by rw [h1]
    have k2 : s0.2.2.2.2.1 = s.2.2.2.2.1 := by rw [h1]
    have k3 : s0.2.2.2.2.2.1 = s.2.2.2.2.2.1 := by rw [h1]
    have k4 : s0.2.2.2.2.2.2 = s.2.2.2.2.2.2 := by rw [h1]
    refine ⟨hm.2.2 rfl (by decide) (by decide) (by decide), hm.2.1 h0, n2, u2.trans k1, u3.trans k2, u4.trans k3, fun j hj => ?_⟩
    rw [u6 j hj, k1, k4]
  by_cases c1 : sgn T s.1 = 61
  · have hlt := sgn_lt (Or.inl c1)
    have hr : rst T s = rst2 T 61 (cat T s.1 - 97) (ra (ra (rstart s))) := by unfold rst; rw [if_pos c1]
    rw [hr] at h ⊢
    have hb : (rex T (ra (ra (rstart s)))).1 = true := by rw [← (rst2_pl (sg := 61) (x := cat T s.1 - 97)).1]; exact h
    obtain ⟨b1, b2, b3, b4, b5, b6, b7⟩ := base (ra (ra (rstart s))) hlt rfl hb
    have e2 : rst2 T 61 (cat T s.1 - 97) (ra (ra (rstart s))) = (true, rknow (rdef (re (rex T (ra (ra (rstart s)))).2 12 (cat T s.1 - 97)) ((rex T (ra (ra (rstart s)))).2.2.2.2.2.1 ||| (1 <<< ((cat T s.1 - 97) &&& 31)))) ((rex T (ra (ra (rstart s)))).2.2.2.2.1 ||| (1 <<< ((cat T s.1 - 97) &&& 31)))) := by
      unfold rst2; rw [if_pos hb]; dsimp only; rw [if_pos rfl]
    rw [e2, if_pos (Or.inl c1)]
    refine ⟨s.1 + 2, (rex T (ra (ra (rstart s)))).2, rfl, rfl, b1, b2, b3, b4, b5, b6, b7, fun _ => ?_, fun h2 => ?_, fun h2 => absurd c1 h2⟩
    · show ((rex T (ra (ra (rstart s)))).2.2.2.2.1 ||| _, (rex T (ra (ra (rstart s)))).2.2.2.2.2.1 ||| _, (rex T (ra (ra (rstart s)))).2.2.2.2.2.2.1, (rex T (ra (ra (rstart s)))).2.2.2.2.2.2.2) = _
      rw [b4, b5, b6]
    · rw [c1] at h2; exact absurd h2 (by decide)
  · by_cases c2 : sgn T s.1 = 33
    · have hlt := sgn_lt (Or.inr c2)
      have hr : rst T s = rst2 T 33 (cat T s.1 - 97) (re (ra (ra (rstart s))) 11 (cat T s.1 - 97)) := by unfold rst; rw [if_neg c1, if_pos c2]
      rw [hr] at h ⊢
      have hb : (rex T (re (ra (ra (rstart s))) 11 (cat T s.1 - 97))).1 = true := by rw [← (rst2_pl (sg := 33) (x := cat T s.1 - 97)).1]; exact h
      obtain ⟨b1, b2, b3, b4, b5, b6, b7⟩ := base (re (ra (ra (rstart s))) 11 (cat T s.1 - 97)) hlt rfl hb
      have e0 : (re (ra (ra (rstart s))) 11 (cat T s.1 - 97)).1 = s.1 + 2 := rfl
      rw [e0] at b1 b3 b7
      generalize re (ra (ra (rstart s))) 11 (cat T s.1 - 97) = s0 at *
      have pl := rst2_pl (T := T) (sg := 33) (x := cat T s.1 - 97) (s := s0)
      rw [if_pos (Or.inr c2)]
      refine ⟨s.1 + 2, (rex T s0).2, rfl, pl.2, b1, b2, b3, b4, b5, b6, b7, fun h2 => absurd h2 c1, fun _ => ?_, fun _ h2 => absurd c2 h2⟩
      unfold rst2
      rw [if_pos hb]
      dsimp only
      rw [if_neg (by decide), b5]
      by_cases hv : v_126 s.2.2.2.2.1 (cat T s.1 - 97) = 0
      · rw [if_pos hv, if_pos hv]
        show ((rex T s0).2.2.2.2.1 ||| _, (rex T s0).2.2.2.2.2.1, (rex T s0).2.2.2.2.2.2.1 ||| _, (rex T s0).2.2.2.2.2.2.2 ||| _) = _
        rw [b4, b5, b6]
      · rw [if_neg hv, if_neg hv]
        show ((rex T s0).2.2.2.2.1 ||| _, (rex T s0).2.2.2.2.2.1, (rex T s0).2.2.2.2.2.2.1, (rex T s0).2.2.2.2.2.2.2) = _
        rw [b4, b5, b6]
    · have hr : rst T s = ((rex T (rstart s)).1, re (rex T (rstart s)).2 14 0) := by unfold rst; rw [if_neg c1, if_neg c2]
      rw [hr] at h ⊢
      obtain ⟨b1, b2, b3, b4, b5, b6, b7⟩ := base (rstart s) hp rfl h
      rw [if_neg (fun hh => hh.elim c1 c2)]
      refine ⟨s.1, (rex T (rstart s)).2, rfl, rfl, b1, b2, b3, b4, b5, b6, b7, fun h2 => absurd h2 c1, fun h2 => absurd h2 c2, fun _ _ => ?_⟩
      show ((rex T (rstart s)).2.2.2.2.1, (rex T (rstart s)).2.2.2.2.2.1, (rex T (rstart s)).2.2.2.2.2.2.1, (rex T (rstart s)).2.2.2.2.2.2.2) = _
      rw [b4, b5, b6]
end S60
