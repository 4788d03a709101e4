/-! ===== kept runs ===== -/
abbrev KEn : Type := List Int32 × (Nat → Option VL) × (Nat → Option VL)
/-- a kept run: its text, what it used, what it gave; the class at q, the model in its rows at k -/
def KE (h m : Hp) (q r1 r2 r3 r4 r5 k : Nat) (lang : Int32) (E : KEn) : Prop := tx h (q + 1) E.1 ∧ tm m r1 (40 * k) E.1 ∧ m r2 k = Int32.ofNat E.1.length ∧ (∀ x, x < 27 → cv h (q + 3) x (E.2.1 x)) ∧ (∀ x, x < 26 → bt (rdA E.1 lang).2.2.2.2.2.2.2 x = true → mv m r3 (234 * k + 9 * x) (E.2.1 x) ∧ (E.2.1 x).isSome = true) ∧ (∀ x, x < 27 → ¬ (x < 26 ∧ bt (rdA E.1 lang).2.2.2.2.2.2.2 x = true) → E.2.1 x = none) ∧ (∀ x, x < 27 → cv h (q + 6) x (E.2.2 x)) ∧ (∀ x, x < 26 → mv m r4 (234 * k + 9 * x) (E.2.2 x)) ∧ mv m r5 (9 * k) (E.2.2 26) ∧ (∀ x, x < 26 → bt ((rdA E.1 lang).2.2.2.2.2.1 ||| (rdA E.1 lang).2.2.2.2.2.2.1) x = true → (E.2.2 x).isSome = true)
/-- the place in the class's ring of the i-th oldest -/
def sgm (pc po i : Nat) : Nat := (po + 4 - pc + i) % 4
def sme (E E' : KEn) : Prop := E.1 = E'.1 ∧ ∀ x, x < 27 → E.2.1 x = E'.2.1 x
def PAST (h m : Hp) (c : Nat) (lang : Int32) (pc po : Nat) (F : Nat → KEn) : Prop := pc ≤ 4 ∧ po < 4 ∧ (pc < 4 → po = pc) ∧ h (64 * c + 52) 8 = Int32.ofNat pc ∧ h (64 * c + 52) 9 = Int32.ofNat po ∧ m 1100 c = Int32.ofNat pc ∧ (∀ i, i < pc → KE h m (64 * c + 80 + 9 * sgm pc po i) 1101 1102 1103 1104 1105 (4 * c + i) lang (F (sgm pc po i))) ∧ ∀ s t, s < pc → t < pc → sme (F s) (F t) → s = t
/-- a kept run is of this text and these values -/
def mat (T : List Int32) (e : Nat → Option VL) (E : KEn) : Prop := E.1 = T ∧ ∀ x, x < 27 → E.2.1 x = e x
section S9r
variable {h h' m m' : Hp} {T : List Int32} {c : Nat} {lang : Int32} {pc po : Nat} {F : Nat → KEn} {e fe : Nat → Option VL}
theorem sgm_lt {i : Nat} (h1 : pc ≤ 4) (h2 : po < 4) (h3 : pc < 4 → po = pc) (hi : i < pc) : sgm pc po i < pc := by
  unfold sgm
  by_cases h : pc < 4
  · have := h3 h
    subst this
    rw [show po + 4 - po + i = 4 + i by omega, Nat.add_mod_left, Nat.mod_eq_of_lt (by omega)]
    exact hi
  · omega
theorem sgm_inj {i j : Nat} (h1 : pc ≤ 4) (hi : i < pc) (hj : j < pc) (h : sgm pc po i = sgm pc po j) : i = j := by
  unfold sgm at h; omega
theorem sgm_sur {s : Nat} (h1 : pc ≤ 4) (h2 : po < 4) (h3 : pc < 4 → po = pc) (hs : s < pc) : ∃ i, i < pc ∧ sgm pc po i = s := by
  unfold sgm
  by_cases h : pc < 4
  · have := h3 h
    subst this
    exact ⟨s, hs, by rw [show po + 4 - po + s = 4 + s by omega, Nat.add_mod_left, Nat.mod_eq_of_lt (by omega)]⟩
  · have : pc = 4 := by omega
    subst this
    exact ⟨(s + 4 - po) % 4, Nat.mod_lt _ (by decide), by omega⟩
theorem mat_uni {s t : Nat} (P : PAST h m c lang pc po F) (hs : s < pc) (ht : t < pc) (a : mat T e (F s)) (b : mat T e (F t)) : s = t :=
  P.2.2.2.2.2.2.2 s t hs ht ⟨a.1.trans b.1.symm, fun x hx => (a.2 x hx).trans (b.2 x hx).symm⟩
theorem opn_mem (hT : T.length ≤ 40) : opn T T.length = (decide (63 ∈ T) || decide (64 ∈ T) || decide (33 ∈ T)) := by
  rw [Bool.eq_iff_iff]
  unfold opn
  rw [anyb_iff]
  simp only [Bool.or_eq_true, decide_eq_true_eq]
  constructor
  · rintro ⟨i, hi, hh⟩
    have hc : cat T i = T.getD i 0 := by unfold cat; rw [if_pos hi]
    rw [hc] at hh
    rcases hh with hh | hh | hh
    · exact Or.inl (Or.inl (mem_getD.mpr ⟨i, hi, hh⟩))
    · exact Or.inl (Or.inr (mem_getD.mpr ⟨i, hi, hh⟩))
    · exact Or.inr (mem_getD.mpr ⟨i, hi, hh⟩)
  · have go : ∀ x, x ∈ T → (x = 63 ∨ x = 64 ∨ x = 33) → ∃ i, i < T.length ∧ (cat T i = 63 ∨ cat T i = 64 ∨ cat T i = 33) := by
      intro x hx h
      obtain ⟨i, hi, e⟩ := mem_getD.mp hx
      refine ⟨i, hi, ?_⟩
      have hc : cat T i = T.getD i 0 := by unfold cat; rw [if_pos hi]
      rw [hc, e]; exact h
    rintro ((hh | hh) | hh)
    · exact go _ hh (Or.inl rfl)
    · exact go _ hh (Or.inr (Or.inl rfl))
    · exact go _ hh (Or.inr (Or.inr rfl))
theorem c_1 {q : Nat} (hT : tx h (q + 1) T) : p_1 h q = some (ofB (!opn T T.length)) := by
  unfold p_1
  rw [s_59 hT, opn_mem hT.1]
  simp only [Option.bind_some]
  cases decide (63 ∈ T) with
  | true => rw [if_neg (by decide)]; rfl
  | false =>
    rw [if_pos (by rfl), s_59 hT]
    simp only [Option.bind_some]
    cases decide (64 ∈ T) with
    | true => rw [if_neg (by decide)]; rfl
    | false =>
      rw [if_pos (by rfl), s_59 hT]
      simp only [Option.bind_some]
      cases decide (33 ∈ T) <;> rfl
/-- the class looks for a kept run -/
theorem c_2 (P : PAST h m c lang pc po F) (hc : c < 16) (hT : tx h (64 * c + 53) T) (hW : ∀ i, i < 27 → cv h 45 i (e i)) : (opn T T.length = true → p_2 h (64 * c + 52) 45 = some 0) ∧ (opn T T.length = false → (∃ s, s < pc ∧ mat T e (F s) ∧ p_2 h (64 * c + 52) 45 = some (64 * c + 80 + 9 * s + 1)) ∨ ((∀ s, s < pc → ¬ mat T e (F s)) ∧ p_2 h (64 * c + 52) 45 = some 0)) := by
  obtain ⟨P1, P2, P3, P4, P5, P6, P7, P8⟩ := P
  have r1 := c_1 (h := h) (q := 64 * c + 52) hT
  refine ⟨fun ho => ?_, fun ho => ?_⟩
  · rw [ho] at r1
    have hst : w_lp (fun (s : Int32) => l_2_2 h (64 * c + 52) 45 s) w_N 0 = some (.inr ()) := by
      refine u_once (by decide) ?_
      show l_2_2 h (64 * c + 52) 45 0 = _
      unfold l_2_2
      by_cases hh : (0 : Int32) < h (64 * c + 52) 8
      · rw [if_pos hh, r1]
        simp only [Option.bind_some]
        rw [if_pos (by rfl)]
      · rw [if_neg hh]
    unfold p_2
    rw [hst]; rfl
  · rw [ho] at r1
    have lp : ok (w_lp (fun (s : Int32) => l_2_2 h (64 * c + 52) 45 s) w_N 0) (fun r => (∃ s, s < pc ∧ mat T e (F s) ∧ r = .inl (Int32.ofNat s)) ∨ ((∀ s, s < pc → ¬ mat T e (F s)) ∧ r = .inr ())) := by
      refine ok_for (fun i s => s = Int32.ofNat i ∧ ∀ t, t < i → ¬ mat T e (F t)) pc ⟨rfl, fun t ht => absurd ht (Nat.not_lt_zero t)⟩ (by unfold w_N; omega) ?_ ?_
      · rintro i s hi ⟨rfl, hb⟩
        have hlt : Int32.ofNat i < Int32.ofNat pc := (u_lt (by omega) (by omega)).mpr hi
        obtain ⟨j, hj, ej⟩ := sgm_sur P1 P2 P3 hi
        have K := P7 j hj
        rw [ej] at K
        have e14 := c_14 (h := h) (q0 := 64 * c + 80 + 9 * i) (q1 := 64 * c + 53) (q2 := 45) K.1 hT K.2.2.2.1 hW
        unfold l_2_2
        rw [P4, if_pos hlt, r1]
        simp only [Option.bind_some]
        rw [if_neg (by decide), u_ix (by omega) (by decide), u_cl (by omega), show 9 * i + (64 * c + 52) + 28 = 64 * c + 80 + 9 * i by omega, show 64 * c + 52 + 1 = 64 * c + 53 by omega, e14]
        simp only [w_gd, Option.bind_some]
        have hm : (decide ((F i).1 = T) && smv (F i).2.1 e 27) = true ↔ mat T e (F i) := by
          rw [Bool.and_eq_true, decide_eq_true_iff, smv_iff]; rfl
        by_cases hmm : mat T e (F i)
        · rw [hm.mpr hmm, if_neg (by decide)]
          exact ok_some (Or.inl ⟨i, hi, hmm, rfl⟩)
        · have : (decide ((F i).1 = T) && smv (F i).2.1 e 27) = false := by
            cases hh : (decide ((F i).1 = T) && smv (F i).2.1 e 27) with
            | false => rfl
            | true => exact absurd (hm.mp hh) hmm
          rw [this, if_pos (by rfl), u_S]
          refine ok_some ⟨rfl, fun t ht => ?_⟩
          by_cases eti : t = i
          · subst eti; exact hmm
          · exact hb t (by omega)
      · rintro s ⟨rfl, hb⟩
        have hlt : ¬ Int32.ofNat pc < Int32.ofNat pc := fun e => by have := (u_lt (by omega) (by omega)).mp e; omega
        unfold l_2_2
        rw [P4, if_neg hlt]
        exact ok_some (Or.inr ⟨hb, rfl⟩)
    obtain ⟨r, r2, r3⟩ := lp
    unfold p_2
    rw [r2]
    rcases r3 with ⟨s, hs, hmm, rfl⟩ | ⟨hno, rfl⟩
    · left
      refine ⟨s, hs, hmm, ?_⟩
      simp only [Option.bind_some, Sum.elim_inl]
      rw [u_ix (by omega) (by decide), u_cl (by omega)]
      simp only [w_gd]
      congr 1
      omega
    · right
      exact ⟨hno, rfl⟩
/-- the model looks for a kept run -/
theorem m_220 {us : Int32} (P : PAST h m c lang pc po F) (hc : c < 16) (hT : mt m c T) (hus : m 1085 c = us) (hus2 : us = (rdA T lang).2.2.2.2.2.2.2) (hF : FH c 0 fe m) (h29 : m 1076 29 = 0) (he : ∀ x, x < 26 → bt us x = true → e x = fe x) (he0 : ∀ x, x < 27 → ¬ (x < 26 ∧ bt us x = true) → e x = none) : ∃ m', w_fr (fun q => q = 1132) m m' ∧ ((∃ i, i < pc ∧ mat T e (F (sgm pc po i)) ∧ p_220 m (Int32.ofNat c) = some (Int32.ofNat (4 * c + i), m')) ∨ ((∀ s, s < pc → ¬ mat T e (F s)) ∧ p_220 m (Int32.ofNat c) = some (-1, m'))) := by
  have PP := P
  obtain ⟨P1, P2, P3, P4, P5, P6, P7, P8⟩ := P
  have e4 : (4 : Int32) * Int32.ofNat c = Int32.ofNat (4 * c) := by rw [show (4 : Int32) = Int32.ofNat 4 from rfl, u_mul]
  have lp : ok (p_220 m (Int32.ofNat c)) (fun r => w_fr (fun q => q = 1132) m r.2 ∧ ((∃ i, i < pc ∧ mat T e (F (sgm pc po i)) ∧ r.1 = Int32.ofNat (4 * c + i)) ∨ ((∀ i, i < pc → ¬ mat T e (F (sgm pc po i))) ∧ r.1 = -1))) := by
    unfold p_220
    rw [e4]
    refine ok_for (fun i s => s.2.1 = Int32.ofNat (4 * c + i) ∧ w_fr (fun q => q = 1132) m s.2.2 ∧ ((∃ j, j < i ∧ mat T e (F (sgm pc po j)) ∧ s.1 = Int32.ofNat (4 * c + j)) ∨ ((∀ j, j < i → ¬ mat T e (F (sgm pc po j))) ∧ s.1 = -1))) pc ⟨rfl, w_fr_refl _ _, Or.inr ⟨fun j hj => absurd hj (Nat.not_lt_zero j), rfl⟩⟩ (by unfold w_N; omega) ?_ ?_
    · rintro i ⟨z, i', g⟩ hi ⟨e1, hf, hz⟩
      simp only at e1 hf hz
      subst e1
      have gr : ∀ q, q ≠ 1132 → g q = m q := fun q hq => hf q hq
      have hlt : Int32.ofNat (4 * c + i) < Int32.ofNat (4 * c + pc) := (u_lt (by omega) (by omega)).mpr (by omega)
      obtain ⟨K1, K2, K3, K4, K5, K6, -⟩ := P7 i hi
      have hD := K1.1
      generalize hE : F (sgm pc po i) = E at *
      have Tg : mt g c T := ⟨hT.1, by rw [gr 1080 (by decide)]; exact hT.2.1, fun j hj => by rw [gr 1079 (by decide)]; exact hT.2.2 j hj⟩
      have e40 : (40 : Int32) * Int32.ofNat (4 * c + i) = Int32.ofNat (40 * (4 * c + i)) := by rw [show (40 : Int32) = Int32.ofNat 40 from rfl, u_mul]
      have e234 : (234 : Int32) * Int32.ofNat (4 * c + i) = Int32.ofNat (234 * (4 * c + i)) := by rw [show (234 : Int32) = Int32.ofNat 234 from rfl, u_mul]
      have l1101 : w_len 1101 = 2560 := by decide +kernel
      have l1103 : w_len 1103 = 14976 := by decide +kernel
      have e214 := s_214 (m := g) (c := c) (r := 1101) (o := 40 * (4 * c + i)) (S := E.1) (T := T) hc Tg hD (fun j hj => by rw [gr 1101 (by decide)]; exact K2 j hj) (by rw [l1101]; omega) (by rw [l1101]; decide)
      show ok (l_220_6 (Int32.ofNat c) z (Int32.ofNat (4 * c + i)) g) _
      unfold l_220_6
      rw [u_ix hc (by decide), u_cl (by omega), gr 1100 (by decide), P6, e4, u_add, if_pos hlt, u_ix (by omega) (by decide), u_cl (by omega), gr 1102 (by decide), K3, e40, e214]
      simp only [w_gd, Option.bind_some]
      -- what the next turn has
      have nxt : ∀ (b : Bool) (g2 : Hp), w_fr (fun q => q = 1132) m g2 → (b = true ↔ mat T e E) → ok (q_220_41 g2 (Int32.ofNat c) z (Int32.ofNat (4 * c + i)) (ofB b)) (Sum.elim (fun s => s.2.1 = Int32.ofNat (4 * c + (i + 1)) ∧ w_fr (fun q => q = 1132) m s.2.2 ∧ ((∃ j, j < i + 1 ∧ mat T e (F (sgm pc po j)) ∧ s.1 = Int32.ofNat (4 * c + j)) ∨ ((∀ j, j < i + 1 → ¬ mat T e (F (sgm pc po j))) ∧ s.1 = -1))) (fun r => w_fr (fun q => q = 1132) m r.2 ∧ ((∃ i, i < pc ∧ mat T e (F (sgm pc po i)) ∧ r.1 = Int32.ofNat (4 * c + i)) ∨ ((∀ i, i < pc → ¬ mat T e (F (sgm pc po i))) ∧ r.1 = -1)))) := by
        intro b g2 hg2 hbm
        unfold q_220_41
        refine ok_some ⟨by rw [u_S]; rfl, hg2, ?_⟩
        cases b with
        | true =>
          left
          exact ⟨i, Nat.lt_succ_self _, by rw [hE]; exact hbm.mp rfl, by rw [if_neg (by decide)]⟩
        | false =>
          have hno : ¬ mat T e E := fun h => by have := hbm.mpr h; cases this
          rcases hz with ⟨j, hj, hm, hz⟩ | ⟨hm, hz⟩
          · exact Or.inl ⟨j, by omega, hm, by rw [if_pos (by rfl)]; exact hz⟩
          · refine Or.inr ⟨fun j hj => ?_, by rw [if_pos (by rfl)]; exact hz⟩
            by_cases eji : j = i
            · subst eji; rw [hE]; exact hno
            · exact hm j (by omega)
      by_cases hDT : E.1 = T
      · rw [decide_eq_true hDT, if_neg (by decide), e234]
        have Fg : FH c 0 fe g := fun g' a1 a2 a3 a4 a5 a6 a7 a8 a9 a10 => hF g' (by rw [a1, gr 1076 (by decide)]) (by rw [a2, gr 1076 (by decide)]) a3 (by rw [a4, gr _ (by decide)]) (by rw [a5, gr _ (by decide)]) (by rw [a6, gr _ (by decide)]) (by rw [a7, gr _ (by decide)]) (by rw [a8, gr _ (by decide)]) (by rw [a9, gr _ (by decide)]) (by rw [a10, gr _ (by decide)])
        obtain ⟨g2, b1, b2⟩ := m_218 (m := g) (c := c) (r := 1103) (o := 234 * (4 * c + i)) (us := us) (fe := fe) (U := E.2.1) hc (by rw [gr 1085 (by decide)]; exact hus) Fg (by rw [gr 1076 (by decide)]; exact h29) (by rw [l1103]; omega) (by rw [l1103]; decide) (by decide) (fun x hx hu => by
          have := K5 x hx (by rw [hDT, ← hus2]; exact hu)
          exact ⟨mv_fr this.1 (fun b _ _ => by rw [gr 1103 (by decide)]), this.2⟩)
        rw [b1]
        simp only [Option.bind_some]
        have e01 : (if ofB (!anyb (fun x => bt us x && !decide (fe x = E.2.1 x)) 26) = 0 then 0 else 1 : Int32) = ofB (!anyb (fun x => bt us x && !decide (fe x = E.2.1 x)) 26) := by
          cases anyb (fun x => bt us x && !decide (fe x = E.2.1 x)) 26 <;> rfl
        rw [e01]
        refine nxt _ g2 (w_fr_trans hf b2) ?_
        rw [Bool.not_eq_true']
        constructor
        · intro hh
          refine ⟨hDT, fun x hx => ?_⟩
          by_cases hu : x < 26 ∧ bt us x = true
          · rw [he x hu.1 hu.2]
            by_cases e : E.2.1 x = fe x
            · exact e
            · have : anyb (fun x => bt us x && !decide (fe x = E.2.1 x)) 26 = true := (anyb_iff 26).mpr ⟨x, hu.1, by simp only [hu.2, Bool.true_and]; rw [decide_eq_false (fun h => e h.symm)]; rfl⟩
              rw [this] at hh; cases hh
          · rw [he0 x hx hu]
            exact K6 x hx (by rw [hDT, ← hus2]; exact hu)
        · intro hm
          cases hh : anyb (fun x => bt us x && !decide (fe x = E.2.1 x)) 26 with
          | false => rfl
          | true =>
            obtain ⟨x, hx, h2⟩ := (anyb_iff 26).mp hh
            simp only [Bool.and_eq_true, Bool.not_eq_true', decide_eq_false_iff_not] at h2
            exact absurd ((hm.2 x (by omega)).trans (he x hx h2.1)).symm h2.2
      · rw [decide_eq_false hDT, if_pos (by rfl)]
        unfold q_220_40
        exact nxt false g hf ⟨fun h => (by cases h), fun h => absurd h.1 hDT⟩
    · rintro ⟨z, i', g⟩ ⟨e1, hf, hz⟩
      simp only at e1 hf hz
      subst e1
      have hlt : ¬ Int32.ofNat (4 * c + pc) < Int32.ofNat (4 * c + pc) := fun e => by have := (u_lt (by omega) (by omega)).mp e; omega
      show ok (l_220_6 (Int32.ofNat c) z (Int32.ofNat (4 * c + pc)) g) _
      unfold l_220_6
      rw [u_ix hc (by decide), u_cl (by omega), hf 1100 (by decide), P6, e4, u_add, if_neg hlt]
      exact ok_some ⟨hf, hz⟩
  obtain ⟨⟨z, m'⟩, h1, h2, h3⟩ := lp
  simp only at h2 h3
  refine ⟨m', h2, ?_⟩
  rcases h3 with ⟨i, hi, hm, rfl⟩ | ⟨hno, rfl⟩
  · exact Or.inl ⟨i, hi, hm, h1⟩
  · refine Or.inr ⟨fun s hs => ?_, h1⟩
    obtain ⟨i, hi, ei⟩ := sgm_sur P1 P2 P3 hs
    rw [← ei]; exact hno i hi
end S9r
