/-! ===== the calls: what is claimed of each; those that ask without running ===== -/
def CI (b : Nat) (h m : Hp) : Prop := ∃ n nw k, CP h m n nw k b
/-- the other side's rows stay -/
def EF (h m h' m' : Hp) : Prop := (∀ z, 1076 ≤ z → h' z = h z) ∧ ∀ q, (q < 1076 ∨ q = 1133) → m' q = m q
/-- the class's answer is the model's, and all is coupled again -/
def OUT (b : Nat) (h m : Hp) (C : Option ((Int32 ⊕ Nat) × Hp)) (M : Option (Int32 × Hp)) (xs : List (Nat × Int32)) : Prop :=
  ∃ r h' v m', C = some (r, h') ∧ M = some (v, m') ∧ CI (b + 20) h' m' ∧ EF h m h' m' ∧ ((r = .inl v ∧ m' 1076 79 = 0) ∨ ∃ id e, (id, e) ∈ xs ∧ r = .inr id ∧ m' 1076 79 = e)
section SA8
variable {h h' h1 m m' m1 : Hp} {n nw k B b c : Nat} {T : List Int32} {lang us x y : Int32} {s : Nat → Int32}
theorem CP_mod (H : CP h m n nw k B) (em : ∀ q, mRw q → m' q = m q) (e76 : ∀ b, mSl b → m' 1076 b = m 1076 b) (hv : m' 1123 = m 1123) : CP h m' n nw k B :=
  CP_fr H ⟨Nat.le_refl _, H.1.2⟩ (fun _ _ => rfl) ⟨rfl, rfl⟩ em e76 (by
    intro j x hj hx
    obtain ⟨v, hv1⟩ := H.2.2.2.2.2.2.2.2.2.2.2.1 j x hj hx
    exact ⟨v, mv_fr hv1 (fun b _ _ => by rw [hv])⟩)
theorem CP_cls (H : CP h m n nw k B) (eh : ∀ z, hRw z → h' z = h z) (e40 : h' 40 0 = h 40 0 ∧ h' 40 1 = h 40 1) : CP h' m n nw k B :=
  CP_fr H ⟨Nat.le_refl _, H.1.2⟩ eh e40 (fun _ _ => rfl) (fun _ _ => rfl) H.2.2.2.2.2.2.2.2.2.2.2.1
theorem CP_up {B' : Nat} (H : CP h m n nw k B) (hB : B ≤ B' ∧ B' ≤ 1000000) : CP h m n nw k B' :=
  CP_fr H hB (fun _ _ => rfl) ⟨rfl, rfl⟩ (fun _ _ => rfl) (fun _ _ => rfl) H.2.2.2.2.2.2.2.2.2.2.2.1
theorem CP_79 (H : CP h m n nw k B) : CP h (w_up m 1076 79 x) n nw k B :=
  CP_mod H (fun q hq => funext fun b => w_up_q (by unfold mRw at hq; omega)) (fun b hb => w_up_b (by unfold mSl at hb; omega)) (funext fun b => w_up_q (by decide))
theorem EF_refl : EF h m h m := ⟨fun _ _ => rfl, fun _ _ => rfl⟩
theorem EF_trans (a : EF h m h1 m1) (b : EF h1 m1 h' m') : EF h m h' m' := ⟨fun z hz => (b.1 z hz).trans (a.1 z hz), fun q hq => (b.2 q hq).trans (a.2 q hq)⟩
theorem EF_RN (R : RN n nw h m h' m') : EF h m h' m' := ⟨R.1, R.2.1⟩
theorem EF_76 {i : Nat} : EF h m h (w_up m 1076 i x) := ⟨fun _ _ => rfl, fun q hq => funext fun b => w_up_q (by omega)⟩
theorem EF_m (f : ∀ q, (q < 1076 ∨ q = 1133) → m' q = m q) : EF h m h m' := ⟨fun _ _ => rfl, f⟩
theorem EF_h (f : ∀ z, 1076 ≤ z → h' z = h z) : EF h m h' m := ⟨f, fun _ _ => rfl⟩
theorem CI_up (H : CI b h m) (hb : b + 20 ≤ 1000000) : ∃ n nw k, k ≤ b ∧ CP h m n nw k (b + 20) := by
  obtain ⟨n, nw, k, H⟩ := H
  exact ⟨n, nw, k, H.1.1, CP_up H ⟨by omega, hb⟩⟩
theorem go_1 {a b c : Int32} (ha : a = 0) : p_146 m a b c = some (0, w_up m 1076 79 1) := by
  rw [goes_3, if_pos ha]; subst ha; simp [ofB]
theorem go_2 {a b c : Int32} (ha : ¬ a = 0) (hb : b = 0) : p_146 m a b c = some (0, w_up m 1076 79 2) := by
  rw [goes_3, if_neg ha, if_pos hb]; subst hb; simp [ofB]
theorem go_3 {a b c : Int32} (ha : ¬ a = 0) (hb : ¬ b = 0) (hc : c = 0) : p_146 m a b c = some (0, w_up m 1076 79 3) := by
  rw [goes_3, if_neg ha, if_neg hb, if_pos hc]; subst hc; simp [ofB]
theorem go_0 {a b c : Int32} (ha : ¬ a = 0) (hb : ¬ b = 0) (hc : ¬ c = 0) : p_146 m a b c = some (1, w_up m 1076 79 0) := by
  rw [goes_3, if_neg ha, if_neg hb, if_neg hc]; simp [ofB, ha, hb, hc]
theorem no10 : ¬ (1 : Int32) = 0 := by decide
/-- a refused call -/
theorem OUT_x {C : Option ((Int32 ⊕ Nat) × Hp)} {M : Option (Int32 × Hp)} {xs : List (Nat × Int32)} {id : Nat} {e v : Int32} (H : CP h m n nw k (b + 20)) (hC : C = some (.inr id, h)) (hM : M = some (v, w_up m 1076 79 e)) (hx : (id, e) ∈ xs) : OUT b h m C M xs :=
  ⟨.inr id, h, v, w_up m 1076 79 e, hC, hM, ⟨n, nw, k, CP_79 H⟩, EF_76, Or.inr ⟨id, e, hx, rfl, w_up_at⟩⟩
/-- between 0 and one less -/
theorem btw {x : Int32} {n : Nat} (hn : n ≤ 16) : v_147 x 0 (Int32.ofNat n - 1) = (if x < 0 then 0 else (if x < Int32.ofNat n then 1 else 0 : Int32)) := by
  unfold v_147
  by_cases h0 : x < 0
  · rw [if_pos h0, if_pos h0]
  · rw [if_neg h0, if_neg h0]
    obtain ⟨e, hl⟩ := u_nat h0
    generalize x.toNatClampNeg = z at e hl
    subst e
    have : Int32.ofNat z ≤ Int32.ofNat n - 1 ↔ Int32.ofNat z < Int32.ofNat n := by
      cases n with
      | zero =>
        rw [u_lt hl (by omega)]
        refine ⟨fun hh => ?_, fun hh => absurd hh (by omega)⟩
        have h1 : Int32.ofNat 0 - 1 = (-1 : Int32) := by decide
        rw [h1, Int32.le_iff_toInt_le, u_toInt hl] at hh
        have h2 : (-1 : Int32).toInt = -1 := by decide
        omega
      | succ n =>
        rw [show Int32.ofNat (n + 1) - 1 = Int32.ofNat n from by
          have := u_subL (a := n + 1) (n := 1) (by omega)
          rw [Nat.add_sub_cancel] at this; exact this, u_le hl (by omega), u_lt hl (by omega)]
        omega
    simp only [this]
theorem cell_eq (H : CP h m n nw k B) : v_167 m x = v_125 h x := by
  unfold v_167 v_125
  rw [H.2.2.1.2.2.1, H.2.1.2.1]
  exact btw H.2.1.1
theorem cell_nat (H : CP h m n nw k B) (hx : ¬ v_125 h x = 0) : ∃ c, c < n ∧ x = Int32.ofNat c := by
  unfold v_125 at hx
  by_cases h0 : x < 0
  · rw [if_pos h0] at hx; exact absurd rfl hx
  · rw [if_neg h0, H.2.1.2.1] at hx
    obtain ⟨e, hl⟩ := u_nat h0
    generalize x.toNatClampNeg = z at e hl
    subst e
    have := H.2.1.1
    by_cases h1 : Int32.ofNat z < Int32.ofNat n
    · exact ⟨z, (u_lt hl (by omega)).mp h1, rfl⟩
    · rw [if_neg h1] at hx; exact absurd rfl hx
theorem wid_eq (H : CP h m n nw k B) : v_172 m x = v_88 h x := by
  unfold v_172 v_88
  rw [H.2.2.1.2.2.2.1, H.2.1.2.2.1]
  exact btw (by have := H.2.1.2.2.2.1; omega)
theorem wid_nat (H : CP h m n nw k B) (hx : ¬ v_88 h x = 0) : ∃ w, w < nw ∧ x = Int32.ofNat w := by
  unfold v_88 at hx
  by_cases h0 : x < 0
  · rw [if_pos h0] at hx; exact absurd rfl hx
  · rw [if_neg h0, H.2.1.2.2.1] at hx
    obtain ⟨e, hl⟩ := u_nat h0
    generalize x.toNatClampNeg = z at e hl
    subst e
    have := H.2.1.2.2.2.1
    by_cases h1 : Int32.ofNat z < Int32.ofNat nw
    · exact ⟨z, (u_lt hl (by omega)).mp h1, rfl⟩
    · rw [if_neg h1] at hx; exact absurd rfl hx
/-- shows -/
theorem call_9 (H : CI b h m) (hb : b + 20 ≤ 1000000) : OUT b h m ((p_106 h x).map fun r => (r, h)) (p_178 m x) [(2, 1)] := by
  obtain ⟨n, nw, k, hk, H⟩ := CI_up H hb
  have we := wid_eq (x := x) H
  by_cases e : v_88 h x = 0
  · refine OUT_x H (id := 2) (e := 1) (v := 0) ?_ ?_ (List.mem_singleton.mpr rfl)
    · unfold p_106; rw [if_pos e]; rfl
    · unfold p_178
      rw [we, go_1 e]
      simp only [Option.bind_some, if_true, w_gd]
  · obtain ⟨w, hw, rfl⟩ := wid_nat H e
    have h4 := H.2.1.2.2.2.1
    have es : h 8 w = m 1115 w := H.2.2.2.1.1 w hw
    refine ⟨.inl (h 8 w), h, m 1115 w, w_up m 1076 79 0, ?_, ?_, ⟨n, nw, k, CP_79 H⟩, EF_76, Or.inl ⟨by rw [es], w_up_at⟩⟩
    · unfold p_106; rw [if_neg e, u_ix (by omega) (by decide), u_cl (by omega)]; rfl
    · unfold p_178
      rw [we, go_0 e no10 no10]
      simp only [Option.bind_some, no10, if_false]
      rw [u_ix (by omega) (by decide), u_cl (by omega)]
      simp only [w_gd]
      rw [w_up_q (by decide)]
/-- state -/
theorem call_14 (H : CI b h m) (hb : b + 20 ≤ 1000000) : OUT b h m (p_111 h x) (p_232 m x) [(2, 1)] := by
  obtain ⟨n, nw, k, hk, H⟩ := CI_up H hb
  have we := cell_eq (x := x) H
  by_cases e : v_125 h x = 0
  · refine OUT_x H (id := 2) (e := 1) (v := 0) ?_ ?_ (List.mem_singleton.mpr rfl)
    · unfold p_111; rw [if_pos e]
    · unfold p_232
      rw [we, go_1 e]
      simp only [Option.bind_some, if_true]
  · obtain ⟨c, hc, rfl⟩ := cell_nat H e
    have h16 := H.2.1.1
    obtain ⟨h1, p1, f1, s1, -⟩ := cp_judge H
    obtain ⟨m1, q1, g1, L1, t1, H1⟩ := cp_looks (CP_79 (x := 0) H)
    have e1 : h1 3 c = m1 1122 c := st_unique s1 t1 c hc
    refine ⟨.inl (h1 3 c), h1, m1 1122 c, m1, ?_, ?_, ⟨n, nw, k, CP_st H1 f1⟩, EF_trans EF_76 (EF_RN (RN_trans (n := n) (nw := nw) (RN_lk g1) (RN_st f1))), Or.inl ⟨by rw [e1], ?_⟩⟩
    · unfold p_111
      rw [if_neg e, e131 (by omega) p1]
      rfl
    · unfold p_232
      rw [we, go_0 e no10 no10]
      simp only [Option.bind_some, no10, if_false]
      rw [q1]
      simp only [Option.bind_some]
      rw [u_ix (by omega) (by decide), u_cl (by omega)]
      rfl
    · rw [g1 1076 (by unfold lkP; omega)]; exact w_up_at
/-- needs -/
theorem call_15 (H : CI b h m) (hb : b + 20 ≤ 1000000) : OUT b h m ((p_112 h x).map fun r => (r, h)) (p_233 m x) [(2, 1)] := by
  obtain ⟨n, nw, k, hk, H⟩ := CI_up H hb
  have we := cell_eq (x := x) H
  by_cases e : v_125 h x = 0
  · refine OUT_x H (id := 2) (e := 1) (v := 0) ?_ ?_ (List.mem_singleton.mpr rfl)
    · unfold p_112; rw [if_pos e]; rfl
    · unfold p_233
      rw [we, go_1 e]
      simp only [Option.bind_some, if_true]
  · obtain ⟨c, hc, rfl⟩ := cell_nat H e
    have h16 := H.2.1.1
    obtain ⟨r, r1, r2⟩ := m_183 (CP_79 (x := 0) H).2.2.1 hc
    have e1 : r = h 14 c := bt_ext fun j hj => by rw [r2 j hj, (H.2.1.2.2.2.2.2.2.2.1 c hc).1 j hj]
    refine ⟨.inl (h 14 c), h, r, w_up m 1076 79 0, ?_, ?_, ⟨n, nw, k, CP_79 H⟩, EF_76, Or.inl ⟨by rw [e1], w_up_at⟩⟩
    · unfold p_112; rw [if_neg e, u_ix (by omega) (by decide), u_cl (by omega)]; rfl
    · unfold p_233
      rw [we, go_0 e no10 no10]
      simp only [Option.bind_some, no10, if_false]
      rw [r1]
      rfl
/-- ring -/
theorem call_16 (H : CI b h m) (hb : b + 20 ≤ 1000000) : OUT b h m ((p_113 h x).map fun r => (r, h)) (p_234 m x) [(2, 1)] := by
  obtain ⟨n, nw, k, hk, H⟩ := CI_up H hb
  have we := cell_eq (x := x) H
  by_cases e : v_125 h x = 0
  · refine OUT_x H (id := 2) (e := 1) (v := 0) ?_ ?_ (List.mem_singleton.mpr rfl)
    · unfold p_113; rw [if_pos e]; rfl
    · unfold p_234
      rw [we, go_1 e]
      simp only [Option.bind_some, if_true]
  · obtain ⟨c, hc, rfl⟩ := cell_nat H e
    have h16 := H.2.1.1
    have H79 := CP_79 (x := 0) H
    obtain ⟨g, g1, g2, g3⟩ := m_185 H79.2.2.1
    have gk : w_fr lkP (w_up m 1076 79 0) g := w_fr_mono g2 (fun q hq => by unfold lkP; omega)
    have p1 := s_84 (g := h) (n := n) (c := c) (nd := ndc h n nw) H.2.1.2.2.2.2.1 h16 hc (fun c hc j hj => (H.2.1.2.2.2.2.2.2.2.1 c hc).2 j hj)
    have p2 := m_186 (g := g) (n := n) (c := c) (nd := ndc h n nw) (CP_lk H79 gk).2.2.1.2.2.1 h16 hc (fun c hc j hj => (g3 c hc j hj).2)
    generalize sbo (fun j => cl (ndc h n nw) n c j && cl (ndc h n nw) n j c) 0 n = R at p1 p2
    refine ⟨.inl R, h, R, g, ?_, ?_, ⟨n, nw, k, CP_lk H79 gk⟩, EF_trans EF_76 (EF_RN (n := n) (nw := nw) (RN_lk gk)), Or.inl ⟨rfl, ?_⟩⟩
    · unfold p_113; rw [if_neg e, p1]; rfl
    · unfold p_234
      rw [we, go_0 e no10 no10]
      simp only [Option.bind_some, no10, if_false]
      rw [g1]
      simp only [Option.bind_some]
      rw [p2]
      rfl
    · rw [gk 1076 (by unfold lkP; omega)]; exact w_up_at
/-- order -/
theorem call_21 (H : CI b h m) (hb : b + 20 ≤ 1000000) : OUT b h m ((p_118 h x).map fun r => (r, h)) (p_244 m x) [(2, 1)] := by
  obtain ⟨n, nw, k, hk, H⟩ := CI_up H hb
  by_cases e : x < 0
  · refine OUT_x H (id := 2) (e := 1) (v := 0) ?_ ?_ (List.mem_singleton.mpr rfl)
    · unfold p_118; rw [if_pos e]; rfl
    · unfold p_244 q_244_6
      rw [if_pos e, go_1 rfl]
      simp only [Option.bind_some, if_true]
  · have h16 := H.2.1.1
    have H79 := CP_79 (x := 0) H
    obtain ⟨g, g1, g2, g3, g4, g5, g6, g7⟩ := m_239 H79.2.2.1 (ow := own h n nw) (fun c _ => ⟨own_nn, by rcases own_4 (h := h) (n := n) (nw := nw) (c := c) with h | h | h <;> rw [h] <;> decide⟩) (m_187 H79.2.2.1 (fun c hc => (H.2.1.2.2.2.2.2.2.2.1 c hc).1) H79.2.2.2.1)
    have Hg : CP h g n nw k (b + 20) := CP_mod H79 (fun q hq => g2 q (by unfold mRw at hq; unfold orP lkP; omega)) (fun b hb => g3 b (by unfold mSl at hb; omega)) (g2 1123 (by unfold orP lkP; omega))
    have hE : EF h (w_up m 1076 79 0) h g := EF_m (fun q hq => g2 q (by unfold orP lkP; omega))
    have w6 := H.2.1.2.2.2.2.2.2.2.2.2.1
    have w7 := H.2.1.2.2.2.2.2.2.2.2.2.2
    have hlen := ordl_len (n := n) (nd := ndc h n nw) (tw := twh h n nw 26) n
    have e79 : g 1076 79 = 0 := by rw [g3 79 (by decide)]; exact w_up_at
    have em : p_244 m x = (w_gd ((if x < g 1076 64 then w_ix x 16 else true)) <| some ((if x < g 1076 64 then (g 1126 x.toNatClampNeg) else (-1) : Int32), g)) := by
      unfold p_244 q_244_6
      rw [if_neg e, go_0 no10 no10 no10]
      simp only [Option.bind_some, no10, if_false]
      rw [g1]
      rfl
    have ec : (p_118 h x).map (fun r => (r, h)) = (w_gd ((if x < (h 11 5) then w_ix x 16 else true)) <| some (.inl (if x < (h 11 5) then (h 16 x.toNatClampNeg) else (-1) : Int32))).map (fun r => (r, h)) := by
      unfold p_118; rw [if_neg e]
    obtain ⟨ex, hl⟩ := u_nat e
    generalize x.toNatClampNeg = z at *
    subst ex
    rw [w6] at ec
    rw [g6] at em
    by_cases hz : z < (ordl n (ndc h n nw) (twh h n nw 26) n).length
    · have hlt : Int32.ofNat z < Int32.ofNat (ordl n (ndc h n nw) (twh h n nw 26) n).length := (u_lt hl (by omega)).mpr hz
      rw [if_pos hlt, if_pos hlt, u_ix (by omega) (by decide)] at ec em
      rw [w7 z hz] at ec
      rw [g7 z hz] at em
      exact ⟨_, h, _, g, ec, em, ⟨n, nw, k, Hg⟩, EF_trans EF_76 hE, Or.inl ⟨rfl, e79⟩⟩
    · have hlt : ¬ Int32.ofNat z < Int32.ofNat (ordl n (ndc h n nw) (twh h n nw 26) n).length := fun hh => hz ((u_lt hl (by omega)).mp hh)
      rw [if_neg hlt, if_neg hlt] at ec em
      exact ⟨_, h, _, g, ec, em, ⟨n, nw, k, Hg⟩, EF_trans EF_76 hE, Or.inl ⟨rfl, e79⟩⟩
/-- runs, found -/
theorem call_22 (H : CI b h m) (hb : b + 20 ≤ 1000000) : p_245 m = some (v_119 h, w_up m 1076 79 0) ∧ CI (b + 20) h (w_up m 1076 79 0) := by
  obtain ⟨n, nw, k, hk, H⟩ := CI_up H hb
  have e : h 0 12 = m 1076 20 := H.2.2.2.2.1.2.2.2.1
  refine ⟨?_, n, nw, k, CP_79 H⟩
  unfold p_245 v_119
  simp only [w_let]
  rw [w_up_b (by decide), e]
theorem call_23 (H : CI b h m) (hb : b + 20 ≤ 1000000) : p_246 m = some (v_120 h, w_up m 1076 79 0) ∧ CI (b + 20) h (w_up m 1076 79 0) := by
  obtain ⟨n, nw, k, hk, H⟩ := CI_up H hb
  have e : h 0 13 = m 1076 21 := H.2.2.2.2.1.2.2.2.2.1
  refine ⟨?_, n, nw, k, CP_79 H⟩
  unfold p_246 v_120
  simp only [w_let]
  rw [w_up_b (by decide), e]
end SA8
