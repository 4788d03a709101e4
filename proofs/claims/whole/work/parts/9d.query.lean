/-! ===== queries: what is read, and what it gives ===== -/
def qsc (x : Int32) : List ST := if x = 115 then [(18, 0, 0)] else if x = 99 then [(8, 0, 0)] else if x = 109 then [(19, 0, 0)] else []
/-- what a query gives, of the kept items -/
def qrs (x : Int32) (l : List Int32) : VL := if x = 115 then .inl (sumL l) else if x = 99 then .inl (Int32.ofNat l.length) else if x = 109 then .inl (maxL l) else .inr l
/-- the text is a query: name a of name b, step k, number n, digits from p5 to p6, summary x -/
def isQ (T : List Int32) (a b : Nat) (k n : Int32) (p5 p6 : Nat) (x : Int32) : Prop := a < 26 ∧ b < 26 ∧ cat T 0 = Int32.ofNat (97 + a) ∧ cat T 2 = Int32.ofNat (97 + b) ∧ ((cat T 3 = 60 ∧ k = 15) ∨ (cat T 3 = 62 ∧ k = 16) ∨ (cat T 3 = 61 ∧ k = 17)) ∧ p5 = (if cat T 4 = 45 then 5 else 4) ∧ isD (cat T p5) = true ∧ p6 = (dgs T 6 p5 (-1)).2 ∧ n = (if cat T 4 = 45 then -(dgs T 6 p5 (-1)).1 else (dgs T 6 p5 (-1)).1) ∧ cat T p6 = x ∧ (x = 115 ∨ x = 99 ∨ x = 109 ∨ x = 108)
def qcd (a b : Nat) (k n x : Int32) : List ST := [(1, Int32.ofNat b, 0), (k, n, 0)] ++ qsc x ++ [(12, Int32.ofNat a, 0), (1, Int32.ofNat a, 0), (14, 0, 0)]
section S9d
variable {T : List Int32} {p : DP} {e : Nat → Option VL} {d : DR}
theorem re3 {s : RS} {x : Int32} (hl : s.2.1.length < 20) (hs : s.2.2.1 = 0) : (re (re (re s 12 x) 1 x) 14 0).2.1 = s.2.1 ++ [(12, x, 0), (1, x, 0), (14, 0, 0)] := by
  have a := re_app (s := s) (k := 12) (x := x) (by omega)
  have la : (re s 12 x).2.1.length = s.2.1.length + 1 := by rw [a, List.length_append]; rfl
  have b := re_app (s := re s 12 x) (k := 1) (x := x) (by omega)
  have lb : (re (re s 12 x) 1 x).2.1.length = s.2.1.length + 2 := by rw [b, List.length_append, la]; rfl
  have c := re_app (s := re (re s 12 x) 1 x) (k := 14) (x := 0) (by omega)
  rw [c, b, a]
  have e1 : (re s 12 x).2.2.1 = 0 := hs
  have e2 : (re (re s 12 x) 1 x).2.2.1 = 0 := hs
  rw [e1, e2, hs, List.append_assoc, List.append_assoc]; rfl
theorem rqs_F {x : Int32} {s : RS} (hl : s.2.1.length < 10) (hs : s.2.2.1 = 0) (h : (rqs T x s).1 = true) : (rqs T x s).2.2.1 = s.2.1 ++ (qsc (cat T s.1) ++ [(12, x, 0), (1, x, 0), (14, 0, 0)]) ∧ (cat T s.1 = 115 ∨ cat T s.1 = 99 ∨ cat T s.1 = 109 ∨ cat T s.1 = 108) ∧ (rqs T x s).2.1 = s.1 + 1 := by
  have one : ∀ k : Int32, (rdef (re (re (re (re (ra s) k 0) 12 x) 1 x) 14 0) (1 <<< (x &&& 31))).2.1 = s.2.1 ++ ([(k, 0, 0)] ++ [(12, x, 0), (1, x, 0), (14, 0, 0)]) := by
    intro k
    have a := re_app (s := ra s) (k := k) (x := 0) (by show s.2.1.length < 41; omega)
    have a' : (re (ra s) k 0).2.1 = s.2.1 ++ [(k, 0, 0)] := by
      rw [a]
      have : (ra s).2.2.1 = 0 := hs
      rw [this]; rfl
    have la : (re (ra s) k 0).2.1.length = s.2.1.length + 1 := by rw [a', List.length_append]; rfl
    show (re (re (re (re (ra s) k 0) 12 x) 1 x) 14 0).2.1 = _
    rw [re3 (s := re (ra s) k 0) (by omega) hs, a', List.append_assoc]
  unfold rqs at h ⊢
  dsimp only at h ⊢
  by_cases c1 : cat T s.1 = 115
  · rw [if_pos c1]
    refine ⟨?_, Or.inl c1, rfl⟩
    rw [one]
    unfold qsc
    rw [if_pos c1]
  rw [if_neg c1] at h ⊢
  by_cases c2 : cat T s.1 = 99
  · rw [if_pos c2]
    refine ⟨?_, Or.inr (Or.inl c2), rfl⟩
    rw [one]
    unfold qsc
    rw [if_neg c1, if_pos c2]
  rw [if_neg c2] at h ⊢
  by_cases c3 : cat T s.1 = 109
  · rw [if_pos c3]
    refine ⟨?_, Or.inr (Or.inr (Or.inl c3)), rfl⟩
    rw [one]
    unfold qsc
    rw [if_neg c1, if_neg c2, if_pos c3]
  rw [if_neg c3] at h ⊢
  by_cases c4 : cat T s.1 = 108
  · rw [if_pos c4]
    refine ⟨?_, Or.inr (Or.inr (Or.inr c4)), rfl⟩
    show (re (re (re (ra s) 12 x) 1 x) 14 0).2.1 = _
    rw [re3 (s := ra s) (by show s.2.1.length < 20; omega) hs]
    unfold qsc
    rw [if_neg c1, if_neg c2, if_neg c3]; rfl
  · rw [if_neg c4] at h; cases h
theorem rqn_F {x k : Int32} {s : RS} {L : List ST} (hs1 : s.1 = 4) (hL : s.2.1 = L) (hl : L.length < 9) (hs : s.2.2.1 = 0) (h : (rqn T x k s).1 = true) : ∃ p5 p6 n y, p5 = (if cat T 4 = 45 then 5 else 4) ∧ isD (cat T p5) = true ∧ p6 = (dgs T 6 p5 (-1)).2 ∧ n = (if cat T 4 = 45 then -(dgs T 6 p5 (-1)).1 else (dgs T 6 p5 (-1)).1) ∧ cat T p6 = y ∧ (y = 115 ∨ y = 99 ∨ y = 109 ∨ y = 108) ∧ (rqn T x k s).2.2.1 = L ++ ((k, n, 0) :: (qsc y ++ [(12, x, 0), (1, x, 0), (14, 0, 0)])) ∧ (rqn T x k s).2.1 = p6 + 1 := by
  have hp5 : (if cat T s.1 = 45 then ra s else s).1 = (if cat T 4 = 45 then 5 else 4) := by
    rw [hs1]
    by_cases c : cat T 4 = 45
    · rw [if_pos c, if_pos c]; show s.1 + 1 = 5; omega
    · rw [if_neg c, if_neg c]; exact hs1
  have hc5 : (if cat T s.1 = 45 then ra s else s).2 = s.2 := by
    by_cases c : cat T s.1 = 45
    · rw [if_pos c]; rfl
    · rw [if_neg c]
  unfold rqn at h ⊢
  dsimp only at h ⊢
  rw [hp5, hc5] at h ⊢
  generalize hq : (if cat T 4 = 45 then 5 else 4 : Nat) = p5 at *
  have hm1 := dgs_m1 (T := T) (p := p5)
  generalize hdg : dgs T 6 p5 (-1) = dg at *
  by_cases c1 : dg.1 = -1
  · rw [if_pos c1] at h; cases h
  rw [if_neg c1] at h ⊢
  have hd : isD (cat T p5) = true := by
    cases hh : isD (cat T p5) with
    | true => rfl
    | false => exact absurd (hm1.mpr hh) c1
  have e45 : (if cat T s.1 = 45 then -dg.1 else dg.1) = (if cat T 4 = 45 then -dg.1 else dg.1) := by rw [hs1]
  rw [e45] at h ⊢
  generalize hn : (if cat T 4 = 45 then -dg.1 else dg.1) = n at *
  generalize hs6 : ((dg.2, s.2) : RS) = s6 at *
  have a := re_app (s := s6) (k := k) (x := n) (by rw [← hs6]; show s.2.1.length < 41; rw [hL]; omega)
  have a' : (re s6 k n).2.1 = L ++ [(k, n, 0)] := by
    rw [a, ← hs6]
    show s.2.1 ++ [(k, n, Int32.ofNat s.2.2.1)] = _
    rw [hL, hs]; rfl
  have s61 : (re s6 k n).1 = dg.2 := by rw [← hs6]; rfl
  have s62 : (re s6 k n).2.2.1 = 0 := by rw [← hs6]; exact hs
  obtain ⟨r1, r2, r3⟩ := rqs_F (T := T) (x := x) (s := re s6 k n) (by rw [a', List.length_append]; show L.length + 1 < 10; omega) s62 h
  rw [s61] at r1 r2 r3
  refine ⟨p5, dg.2, n, cat T dg.2, rfl, hd, by rw [hdg], by rw [hdg]; exact hn.symm, rfl, r2, ?_, r3⟩
  rw [r1, a', List.append_assoc]; rfl
theorem rqu_F (h : (rqu T (0, [], 0, 0, 0, 0, 0)).1 = true) : ∃ a b k n p5 p6 x, isQ T a b k n p5 p6 x ∧ (rqu T (0, [], 0, 0, 0, 0, 0)).2.2.1 = qcd a b k n x ∧ (rqu T (0, [], 0, 0, 0, 0, 0)).2.1 = p6 + 1 := by
  have key : ∀ (a b : Nat) (k : Int32) (s : RS) (r : Bool × RS), r = rqn T (Int32.ofNat a) k s → a < 26 → b < 26 → cat T 0 = Int32.ofNat (97 + a) → cat T 2 = Int32.ofNat (97 + b) → s.1 = 4 → s.2.1 = [(1, Int32.ofNat b, 0)] → s.2.2.1 = 0 → ((cat T 3 = 60 ∧ k = 15) ∨ (cat T 3 = 62 ∧ k = 16) ∨ (cat T 3 = 61 ∧ k = 17)) → r.1 = true → ∃ a b k' n p5 p6 x, isQ T a b k' n p5 p6 x ∧ r.2.2.1 = qcd a b k' n x ∧ r.2.1 = p6 + 1 := by
    intro a b k s r hr ha hb ea eb h1 h2 h3 hk h
    rw [hr] at h
    obtain ⟨p5, p6, n, y, q1, q2, q3, q4, q5, q6, q7, q8⟩ := rqn_F h1 h2 (show 1 < 9 by decide) h3 h
    refine ⟨a, b, k, n, p5, p6, y, ⟨ha, hb, ea, eb, hk, q1, q2, q3, q4, q5, q6⟩, ?_, by rw [hr]; exact q8⟩
    rw [hr, q7]; unfold qcd; rw [List.append_assoc]; rfl
  by_cases c0 : isL (cat T 0) = true
  rotate_left
  · have : rqu T (0, [], 0, 0, 0, 0, 0) = (false, (0, [], 0, 0, 0, 0, 0)) := by unfold rqu; rw [if_neg c0]
    rw [this] at h; cases h
  by_cases c1 : cat T 1 = 61
  rotate_left
  · have : (rqu T (0, [], 0, 0, 0, 0, 0)).1 = false := by unfold rqu; rw [if_pos c0, if_neg c1]
    rw [this] at h; cases h
  by_cases c2 : isL (cat T 2) = true
  rotate_left
  · have : (rqu T (0, [], 0, 0, 0, 0, 0)).1 = false := by unfold rqu; rw [if_pos c0, if_pos c1, if_neg c2]
    rw [this] at h; cases h
  obtain ⟨a, ha, ea, ea2⟩ := L_nat c0
  obtain ⟨b, hb, eb, eb2⟩ := L_nat c2
  generalize hs3 : ru (re (ra (ra (ra ((0, [], 0, 0, 0, 0, 0) : RS)))) 1 (Int32.ofNat b)) (1 <<< (Int32.ofNat b &&& 31)) = s3
  have s31 : s3.1 = 3 := by rw [← hs3]; rfl
  have s32 : s3.2.1 = [(1, Int32.ofNat b, 0)] := by rw [← hs3]; rfl
  have s33 : s3.2.2.1 = 0 := by rw [← hs3]; rfl
  have e : rqu T (0, [], 0, 0, 0, 0, 0) = if cat T 3 = 60 then rqn T (Int32.ofNat a) 15 (ra s3) else if cat T 3 = 62 then rqn T (Int32.ofNat a) 16 (ra s3) else if cat T 3 = 61 then rqn T (Int32.ofNat a) 17 (ra s3) else (false, s3) := by
    unfold rqu
    rw [if_pos c0, if_pos c1, if_pos c2, ← hs3, ← ea2, ← eb2]
  generalize rqu T (0, [], 0, 0, 0, 0, 0) = r at h e ⊢
  by_cases c3 : cat T 3 = 60
  · rw [if_pos c3] at e
    exact key a b 15 (ra s3) r e ha hb ea eb (by show s3.1 + 1 = 4; omega) s32 s33 (Or.inl ⟨c3, rfl⟩) h
  rw [if_neg c3] at e
  by_cases c4 : cat T 3 = 62
  · rw [if_pos c4] at e
    exact key a b 16 (ra s3) r e ha hb ea eb (by show s3.1 + 1 = 4; omega) s32 s33 (Or.inr (Or.inl ⟨c4, rfl⟩)) h
  rw [if_neg c4] at e
  by_cases c5 : cat T 3 = 61
  · rw [if_pos c5] at e
    exact key a b 17 (ra s3) r e ha hb ea eb (by show s3.1 + 1 = 4; omega) s32 s33 (Or.inr (Or.inr ⟨c5, rfl⟩)) h
  · rw [if_neg c5] at e
    rw [e] at h; cases h
/-- what its code gives -/
theorem yr_none {a b : Nat} {k n x : Int32} (hb : b < 26) (he : e b = none) : yr p (qcd a b k n x) (e, [], d) = some (1, 0, e, [], d) := by
  have h1 : qs p 1 (Int32.ofNat b) (e, [], d) = some (1, e, [], d) := by
    rw [qs_xs (Or.inr (Or.inl ⟨Or.inl rfl, b, hb, rfl⟩)), xs_name hb (by decide), he]
  show yr p ((1, Int32.ofNat b, 0) :: ((k, n, 0) :: _ ++ _)) _ = _
  simp only [yr, h1]
  rfl
theorem yr_some {a b : Nat} {k n x : Int32} {v : VL} (ha : a < 26) (hb : b < 26) (hk : k = 15 ∨ k = 16 ∨ k = 17) (he : e b = some v) (hx : x = 115 ∨ x = 99 ∨ x = 109 ∨ x = 108) : yr p (qcd a b k n x) (e, [], d) = some (0, 0, eup (eup e a (some (qrs x ((itl v).filter (cmq k n))))) 26 (some (qrs x ((itl v).filter (cmq k n)))), [], d) := by
  have h1 : qs p 1 (Int32.ofNat b) (e, [], d) = some (0, e, [v], d) := by
    rw [qs_xs (Or.inr (Or.inl ⟨Or.inl rfl, b, hb, rfl⟩)), xs_name hb (by decide), he]
  have h2 : qs p k n (e, [v], d) = some (0, e, [.inr ((itl v).filter (cmq k n))], d) := by
    unfold qs; rw [if_pos hk]
  generalize (itl v).filter (cmq k n) = l at *
  have fin : ∀ w : VL, yr p [(12, Int32.ofNat a, 0), (1, Int32.ofNat a, 0), (14, 0, 0)] (e, [w], d) = some (0, 0, eup (eup e a (some w)) 26 (some w), [], d) := by
    intro w
    have g1 : qs p 12 (Int32.ofNat a) (e, [w], d) = some (0, eup e a (some w), [], d) := by
      rw [qs_xs (Or.inr (Or.inl ⟨Or.inr (Or.inr (Or.inl rfl)), a, ha, rfl⟩))]
      show some ((0 : Int32), eup e (Int32.ofNat a).toNatClampNeg (some w), ([] : List VL), d) = _
      rw [u_cl (by omega)]
    have g2 : qs p 1 (Int32.ofNat a) (eup e a (some w), [], d) = some (0, eup e a (some w), [w], d) := by
      rw [qs_xs (Or.inr (Or.inl ⟨Or.inl rfl, a, ha, rfl⟩)), xs_name ha (by decide)]
      have : eup e a (some w) a = some w := by unfold eup; rw [if_pos rfl]
      rw [this]
    have g3 : qs p 14 0 (eup e a (some w), [w], d) = some (0, eup (eup e a (some w)) 26 (some w), [], d) := by
      rw [qs_xs (Or.inr (Or.inr (Or.inr (Or.inr (Or.inr (Or.inr (Or.inr (Or.inr rfl))))))))]
      rfl
    simp only [yr, g1, g2, g3, if_true]
  have mid : yr p (qsc x ++ [(12, Int32.ofNat a, 0), (1, Int32.ofNat a, 0), (14, 0, 0)]) (e, [.inr l], d) = some (0, 0, eup (eup e a (some (qrs x l))) 26 (some (qrs x l)), [], d) := by
    rcases hx with rfl | rfl | rfl | rfl
    · have g : qs p 18 0 (e, [.inr l], d) = some (0, e, [.inl (sumL l)], d) := rfl
      show yr p ((18, 0, 0) :: _) _ = _
      simp only [yr, g, if_true]
      exact fin _
    · have g : qs p 8 0 (e, [.inr l], d) = some (0, e, [.inl (Int32.ofNat l.length)], d) := rfl
      show yr p ((8, 0, 0) :: _) _ = _
      simp only [yr, g, if_true]
      exact fin _
    · have g : qs p 19 0 (e, [.inr l], d) = some (0, e, [.inl (maxL l)], d) := rfl
      show yr p ((19, 0, 0) :: _) _ = _
      simp only [yr, g, if_true]
      exact fin _
    · exact fin _
  show yr p ((1, Int32.ofNat b, 0) :: (k, n, 0) :: (qsc x ++ _)) _ = _
  simp only [yr, h1, h2, if_true]
  exact mid
end S9d
