/-! ===== the model's statements: one ===== -/
section S98
variable {T : List Int32} {c qr : Nat} {p : DP} {e fe : Nat → Option VL} {us kn : Int32} {m m' : Hp} {d : DR}
theorem SB_fr {a : Nat} (hq : qres qr) (H : SB T c qr p e fe us m a kn d) (f : w_fr (fun q => q = 1130 ∨ q = 1132) m m') : SB T c qr p e fe us m' a kn d ∧ evg c qr m m' := by
  obtain ⟨h1, h2, h3, h4, h5, h6, h7, h8, h9⟩ := H
  have hne : qr ≠ 1130 ∧ qr ≠ 1132 := by unfold qres at hq; omega
  have hf : evg c qr m m' := evg_evf hq ⟨w_fr_mono f (fun q hq => by unfold evfP; omega), fun b _ _ _ _ _ _ _ => by rw [f 1076 (by decide)], fun b _ => by rw [f 1095 (by decide)]⟩
  have k76 : m' 1076 = m 1076 := f 1076 (by decide)
  refine ⟨⟨⟨h1.1, by rw [k76]; exact h1.2.1, by rw [f 1127 (by decide)]; exact h1.2.2⟩, FG_evg h2 hf, by rw [k76]; exact h3, fun i hi hn => ⟨fun hb => ⟨((h4 i hi hn).1 hb).1, mv_fr ((h4 i hi hn).1 hb).2 (fun b _ _ => by rw [f 1131 (by decide)])⟩, (h4 i hi hn).2⟩, by rw [k76]; exact h5, by rw [k76]; exact h6, by rw [k76]; exact h7, dm_fr h8 (f _ (by decide)) (f _ (by decide)) (fun b _ _ _ _ _ => by rw [k76]), mv_fr h9 (fun b _ _ => by rw [f qr (by omega)])⟩, hf⟩
theorem SB_67 {a b : Nat} (hq : qres qr) (H : SB T c qr p e fe us m a kn d) : SB T c qr p e fe us (w_up m 1076 67 (Int32.ofNat b)) b kn d ∧ evg c qr m (w_up m 1076 67 (Int32.ofNat b)) := by
  obtain ⟨h1, h2, h3, h4, h5, h6, h7, h8, h9⟩ := H
  have hf : evg c qr m (w_up m 1076 67 (Int32.ofNat b)) := evg_76 hq (Or.inl rfl)
  have hne : qr ≠ 1076 := by unfold qres at hq; omega
  refine ⟨⟨⟨h1.1, by rw [w_up_b (by decide)]; exact h1.2.1, fun i hi => by rw [w_up_q (by decide)]; exact h1.2.2 i hi⟩, FG_evg h2 hf, by rw [w_up_b (by decide)]; exact h3, fun i hi hn => ⟨fun hb => ⟨((h4 i hi hn).1 hb).1, mv_fr ((h4 i hi hn).1 hb).2 (fun b _ _ => w_up_q (by decide))⟩, (h4 i hi hn).2⟩, w_up_at, by rw [w_up_b (by decide)]; exact h6, by rw [w_up_b (by decide)]; exact h7, dm_fr h8 (funext fun b => w_up_q (by decide)) (funext fun b => w_up_q (by decide)) (fun b h1 _ _ _ _ => w_up_b h1), mv_fr h9 (fun b _ _ => w_up_q hne)⟩, hf⟩
theorem SB_EV {nm : Nat → Prop} {a b : Nat} {V : List VL} {d' : DR} {bb : Bool} (hq : qres qr) (H : SB T c qr p e fe us m a kn d) (f : evf c m m') (E : EV T c p e fe nm m' (b, [], V, d', bb)) : SB T c qr p e fe us m' b kn d' := by
  obtain ⟨h1, h2, h3, h4, h5, h6, h7, h8, h9⟩ := H
  have n1131 : m' 1131 = m 1131 := f.1 1131 (by unfold evfP; omega)
  have nqr : m' qr = m qr := f.1 qr (by unfold qres at hq; unfold evfP; omega)
  exact ⟨E.1.1, FG_evg h2 (evg_evf hq f), by rw [f.2.1 74 (by decide) (by decide) (by decide) (by decide) (by decide) (by decide) (by decide)]; exact h3, fun i hi hn => ⟨fun hb => ⟨((h4 i hi hn).1 hb).1, mv_fr ((h4 i hi hn).1 hb).2 (fun b _ _ => by rw [n1131])⟩, (h4 i hi hn).2⟩, E.2.1, E.2.2.2.2.2.2.2.2.2.1, E.2.2.2.2.2.2.2.2.2.2.1, E.2.2.2.2.2.2.2.2.2.2.2, mv_fr h9 (fun b _ _ => by rw [nqr])⟩
/-- a name is changed: the value becomes the sum -/
theorem m_209 {a x : Nat} {v w : VL} (hq : qres qr) (hx : x < 26) (H : SB T c qr p e fe us m a kn d) (hn : bt us x = true ∨ bt kn x = true) (hw : e x = some w) (hv : mv m 1130 0 (some v)) : ∃ m', p_209 m (Int32.ofNat (97 + x)) = some m' ∧ evg c qr m m' ∧ (∀ i j, w = .inl i → v = .inl j → SB T c qr p e fe us m' a kn d ∧ mv m' 1130 0 (some (.inl (i + j)))) ∧ ((¬ ∃ i j, w = .inl i ∧ v = .inl j) → m' 1076 75 = 2 ∧ m' 1076 76 = m 1076 80 ∧ dm m' c p d) := by
  have h1 := H.1
  have hT := h1.1
  have k77 : m 1076 77 = Int32.ofNat c := H.2.2.2.2.2.2.2.1.2.1
  have e97 : Int32.ofNat (97 + x) - 97 = Int32.ofNat x := by
    have := u_subL (a := 97 + x) (n := 97) (by omega)
    rw [show 97 + x - 97 = x by omega] at this
    exact this
  -- the value fetched
  have fet : ∃ g, w_fr (fun q => q = 1132) m g ∧ mv g 1132 0 (some w) ∧ p_209 m (Int32.ofNat (97 + x)) = q_209_25 g := by
    by_cases hb : bt kn x = true
    · have hv2 := ((H.2.2.2.1 x hx hn).1 hb).2
      rw [hw] at hv2
      have cp := m_193 (m := m) (r := 1131) (r2 := 1132) (o := 9 * x) (o2 := 0) (by rw [w_len_1131]; omega) (by rw [w_len_1132]; omega) (by rw [w_len_1131]; omega) (by rw [w_len_1132]; omega) (Or.inl (by decide))
      refine ⟨_, fun q hq => funext fun b => w_fi_q hq, mv_cp hv2, ?_⟩
      unfold p_209
      rw [s_162 hx, if_neg (fun h => (u_bit (by omega)).mp h (by rw [H.2.2.1]; exact hb)), e97, u_9]
      rw [show p_193 m 1131 (Int32.ofNat (9 * x)) 1132 0 = _ from cp]
      rfl
    · have efe : fe x = some w := by rw [← (H.2.2.2.1 x hx hn).2 hb]; exact hw
      obtain ⟨g, b1, b2, b3⟩ := H.2.1 m evg_refl x hx
      rw [efe] at b2
      refine ⟨g, b3, b2, ?_⟩
      unfold p_209
      rw [s_162 hx, if_pos ((u_bit (by omega)).mpr (by rw [H.2.2.1]; exact hb)), k77, b1]
      rfl
  obtain ⟨g, f1, gw, eq⟩ := fet
  have gv : mv g 1130 0 (some v) := mv_fr hv (fun b _ _ => by rw [f1 1130 (by decide)])
  have n199 : v_199 g 0 = ofB (vNum (some v)) ∧ g_199 0 = true := m_199 (i := 0) (by decide) gv
  have k76 : g 1076 = m 1076 := f1 1076 (by decide)
  rw [eq]
  have er : ∃ m', q_209_35 g = some m' ∧ evg c qr m m' ∧ m' 1076 75 = 2 ∧ m' 1076 76 = m 1076 80 ∧ dm m' c p d := by
    obtain ⟨m2, a1, a2, a3, a4, a5⟩ := m_195 (m := g) (e := 2) (x := g 1076 80) (by rw [k76]; exact H.2.2.2.2.2.1) (by rw [k76]; exact H.2.2.2.2.2.2.1) (by decide)
    refine ⟨m2, ?_, evg_evf hq ⟨fun q hq2 => ?_, fun b _ _ _ h4 h5 _ _ => ?_, fun b _ => ?_⟩, a2, by rw [a3, k76], dm_fr H.2.2.2.2.2.2.2.1 (by rw [a4 1095 (by decide), f1 1095 (by decide)]) (by rw [a4 1099 (by decide), f1 1099 (by decide)]) (fun b _ _ _ h4 h5 => by rw [a5 b h4 h5, k76])⟩
    · unfold q_209_35
      rw [a1]; rfl
    · unfold evfP at hq2
      rw [a4 q (by omega), f1 q (by omega)]
    · rw [a5 b h4 h5, k76]
    · rw [a4 1095 (by decide), f1 1095 (by decide)]
  unfold q_209_25
  cases w with
  | inr l =>
    have g8 := gw.1
    rw [gw.2.1, if_neg (u_m1 (by omega))]
    obtain ⟨m2, a1, a2, a3⟩ := er
    exact ⟨m2, a1, a2, fun i j h => (by cases h), fun _ => a3⟩
  | inl i =>
    rw [gw.1, if_pos rfl, n199.2, n199.1]
    simp only [w_gd]
    cases v with
    | inr l =>
      rw [if_pos (by rfl)]
      obtain ⟨m2, a1, a2, a3⟩ := er
      exact ⟨m2, a1, a2, fun i j _ h => (by cases h), fun _ => a3⟩
    | inl j =>
      rw [if_neg (show ¬ ofB (vNum (some (Sum.inl j : VL))) = 0 from (by decide : ¬ ofB true = 0))]
      have gw1 : g 1132 1 = i := gw.2
      have gv1 : g 1130 1 = j := gv.2
      rw [gw1, gv1]
      have f2 : w_fr (fun q => q = 1130 ∨ q = 1132) m (w_up g 1130 1 (j + i)) := w_fr_up (w_fr_mono f1 (fun q hq => Or.inr hq)) (Or.inl rfl)
      obtain ⟨S, F⟩ := SB_fr hq H f2
      refine ⟨_, rfl, F, fun i2 j2 h3 h4 => ?_, fun hne => absurd ⟨i, j, rfl, rfl⟩ hne⟩
      cases h3; cases h4
      refine ⟨S, ?_, ?_⟩
      · rw [w_up_b (by decide)]; exact gv.1
      · rw [show (0 + 1 : Nat) = 1 from rfl, w_up_at, Int32.add_comm]
end S98
