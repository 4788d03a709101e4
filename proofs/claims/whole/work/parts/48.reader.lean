/-! ===== reading: texts of statements, queries, clauses ===== -/
def rss (T : List Int32) : Nat → RS → Bool × RS
  | 0, s => (false, s)
  | f + 1, s => if (rst T s).1 = true then (if cat T (rst T s).2.1 = 59 then rss T f (ra (rst T s).2) else (true, (rst T s).2)) else (false, (rst T s).2)
/-- the end of a query: the summary -/
def rqs (T : List Int32) (x : Int32) (s : RS) : Bool × RS :=
  let fin : RS → Bool × RS := fun s => (true, rdef (re (re (re s 12 x) 1 x) 14 0) (1 <<< (x &&& 31)))
  if cat T s.1 = 115 then fin (re (ra s) 18 0)
  else if cat T s.1 = 99 then fin (re (ra s) 8 0)
  else if cat T s.1 = 109 then fin (re (ra s) 19 0)
  else if cat T s.1 = 108 then fin (ra s)
  else (false, s)
/-- a query behind its comparison -/
def rqn (T : List Int32) (x k : Int32) (s : RS) : Bool × RS :=
  let s5 : RS := if cat T s.1 = 45 then ra s else s
  let n := (dgs T 6 s5.1 (-1)).1
  let s6 : RS := ((dgs T 6 s5.1 (-1)).2, s5.2)
  if n = -1 then (false, s6) else rqs T x (re s6 k (if cat T s.1 = 45 then -n else n))
def rqu (T : List Int32) (s : RS) : Bool × RS :=
  if isL (cat T s.1) = true then
    if cat T (s.1 + 1) = 61 then
      if isL (cat T (s.1 + 2)) = true then
        let s3 := ru (re (ra (ra (ra s))) 1 (cat T (s.1 + 2) - 97)) (1 <<< ((cat T (s.1 + 2) - 97) &&& 31))
        if cat T (s.1 + 3) = 60 then rqn T (cat T s.1 - 97) 15 (ra s3)
        else if cat T (s.1 + 3) = 62 then rqn T (cat T s.1 - 97) 16 (ra s3)
        else if cat T (s.1 + 3) = 61 then rqn T (cat T s.1 - 97) 17 (ra s3)
        else (false, s3)
      else (false, ra (ra s))
    else (false, ra s)
  else (false, s)
/-- names behind a colon, k of them are still possible: the set, or -1 -/
def rnm (T : List Int32) : Nat → Int32 → RS → Int32 × RS
  | 0, x, s => (x, s)
  | k + 1, x, s => if isL (cat T s.1) = true then (let y := x ||| (1 <<< ((cat T s.1 - 97) &&& 31))
      if k = 0 then (y, ra s) else if cat T (s.1 + 1) = 44 then rnm T k y (ra (ra s)) else (y, ra s))
    else (-1, s)
/-- clauses; nm the names behind colons so far -/
def rcl (T : List Int32) : Nat → Int32 → RS → Bool × RS
  | 0, _, s => (false, s)
  | f + 1, nm, s0 =>
    let s := rstart s0
    if isL (cat T s.1) = true then
      let hd := cat T s.1 - 97
      let r : Int32 × RS := if cat T (s.1 + 1) = 58 then rnm T 5 0 (ra (ra s)) else (0, ra s)
      if r.1 = -1 then (false, r.2) else
        let s2 := rdef (re r.2 hd r.1) (r.2.2.2.2.2.1 ||| (1 <<< (hd &&& 31)))
        if cat T s2.1 = 59 then rcl T f (nm ||| r.1) (ra s2) else (true, ru s2 ((nm ||| r.1) &&& (s2.2.2.2.2.1 ^^^ (-1))))
    else (false, s)
section R48
variable {T : List Int32} {q : Nat} {h : Hp} {s : RS}
theorem c_39 (H : rs T q h s) : ok (p_39 h) (QQ T q h (rss T 40 s).1 (rss T 40 s).2) := by
  unfold p_39
  have key : ∀ f, f ≤ 40 → ∀ (N : Nat) (g : Hp) (s : RS), f < N → rs T q g s → ok (w_lp (fun (t : Int32 × Hp) => l_39_2 t.1 t.2) N (Int32.ofNat (40 - f), g)) (QQ T q g (rss T f s).1 (rss T f s).2) := by
    intro f
    induction f with
    | zero =>
      intro _ N g s hN H
      refine ok_E (u_once (e := (0, g)) (by omega) ?_) ⟨rfl, H, rfr_refl⟩
      show l_39_2 (Int32.ofNat 40) g = _
      unfold l_39_2; rw [if_neg (by decide)]
    | succ f ih =>
      intro hf N g s hN H
      obtain ⟨N, rfl⟩ : ∃ m, N = m + 1 := ⟨N - 1, by omega⟩
      have hlt : Int32.ofNat (40 - (f + 1)) < 40 := (u_ltL (by omega) (by decide)).mpr (show 40 - (f + 1) < 40 by omega)
      obtain ⟨r, hr, r1, r2, r3⟩ := c_40 H
      simp only [rss]
      cases hb : (rst T s).1 with
      | false =>
        rw [hb] at r1
        refine ok_E (u_once (e := (0, r.2)) (by omega) ?_) ⟨by simp [ofB], by simpa using r2, r3⟩
        show l_39_2 _ g = _
        unfold l_39_2
        rw [if_pos hlt, hr]; simp only [Option.bind_some]; rw [if_pos (by rw [r1]; rfl)]
      | true =>
        rw [hb] at r1
        simp only [if_true]
        rcases c_skip (x := 59) r2 (by decide) with ⟨c1, h1, a1, a2, a3⟩ | ⟨c1, a1⟩
        · rw [if_pos c1]
          have hstep : l_39_2 (Int32.ofNat (40 - (f + 1))) g = some (.inl (Int32.ofNat (40 - f), h1)) := by
            unfold l_39_2
            rw [if_pos hlt, hr]; simp only [Option.bind_some]
            rw [if_neg (by rw [r1]; decide), a1]
            simp only [Option.bind_some]
            rw [if_neg (by decide), u_S, show 40 - (f + 1) + 1 = 40 - f by omega]
          simp only [w_lp, hstep]
          refine ok_mono (ih (by omega) N h1 _ (by omega) a2) ?_
          intro x hx
          exact QQ_tr (rfr_trans r3 a3) hx
        · rw [if_neg c1]
          refine ok_E (u_once (e := (1, r.2)) (by omega) ?_) ⟨rfl, r2, r3⟩
          show l_39_2 _ g = _
          unfold l_39_2
          rw [if_pos hlt, hr]; simp only [Option.bind_some]
          rw [if_neg (by rw [r1]; decide), a1]
          simp only [Option.bind_some, if_true]
  exact key 40 (Nat.le_refl _) w_N h s (by decide) H
theorem c_49 {x : Int32} (H : rs T q h s) (k : Int32 × Hp → Option (Int32 × Hp)) (hk0 : ∀ g, k (0, g) = some (0, g)) (hk1 : ∀ g s1, rs T q g s1 → ok (k (1, g)) (QQ T q g true (rdef (re (re (re s1 12 x) 1 x) 14 0) (1 <<< (x &&& 31))))) : ok ((p_49 h).bind k) (QQ T q h (rqs T x s).1 (rqs T x s).2) := by
  unfold p_49 rqs
  dsimp only
  have one : ∀ (c d : Int32) (h1 : Hp), rs T q h1 (ra s) → rfr h h1 → ok ((w_gd ((h1 17 1) == 24) <| (p_10 h1 24 d 0 (h1 17 3)).bind fun v => some ((1 : Int32), v)).bind k) (QQ T q h true (rdef (re (re (re (re (ra s) d 0) 12 x) 1 x) 14 0) (1 <<< (x &&& 31)))) := by
    intro c d h1 a2 a3
    obtain ⟨h2, b1, b2, b3⟩ := c_add (k := d) (d := 0) a2
    rw [rs24 a2, b1]
    refine ok_mono (hk1 h2 _ b2) ?_
    intro r hr
    exact QQ_tr (rfr_trans a3 b3) hr
  rcases c_skip (x := 115) H (by decide) with ⟨c1, h1, a1, a2, a3⟩ | ⟨c1, a1⟩
  · rw [a1, if_pos c1]
    simp only [Option.bind_some]
    rw [if_neg (by decide)]
    exact one 0 18 h1 a2 a3
  rw [a1, if_neg c1]
  simp only [Option.bind_some, if_true]
  rcases c_skip (x := 99) H (by decide) with ⟨c1, h1, a1, a2, a3⟩ | ⟨c1, a1⟩
  · rw [a1, if_pos c1]
    simp only [Option.bind_some]
    rw [if_neg (by decide)]
    exact one 0 8 h1 a2 a3
  rw [a1, if_neg c1]
  simp only [Option.bind_some, if_true]
  rcases c_skip (x := 109) H (by decide) with ⟨c1, h1, a1, a2, a3⟩ | ⟨c1, a1⟩
  · rw [a1, if_pos c1]
    simp only [Option.bind_some]
    rw [if_neg (by decide)]
    exact one 0 19 h1 a2 a3
  rw [a1, if_neg c1]
  simp only [Option.bind_some, if_true]
  rcases c_skip (x := 108) H (by decide) with ⟨c1, h1, a1, a2, a3⟩ | ⟨c1, a1⟩
  · rw [a1, if_pos c1]
    simp only [Option.bind_some]
    refine ok_mono (hk1 h1 _ a2) ?_
    intro r hr
    exact QQ_tr a3 hr
  · rw [a1, if_neg c1]
    simp only [Option.bind_some]
    show ok (k (0, h)) _
    rw [hk0]
    exact ok_some ⟨rfl, H, rfr_refl⟩
theorem c_48n {x k : Int32} (H : rs T q h s) (hk : ¬ k = -1) : ok (q_48_52 h x k) (QQ T q h (rqn T x k s).1 (rqn T x k s).2) := by
  unfold q_48_52 rqn
  rw [if_neg hk]
  have tl : ∀ (g : Hp) (sg : Int32) (s5 : RS) (nv : Int32 → Int32), rs T q g s5 → rfr h g → (∀ n, (if sg = 0 then n else -n) = nv n) → ok ((p_38 g).bind fun vz19 => if vz19.1 = (-1) then some (0, vz19.2) else w_gd ((vz19.2 17 1) == 24) <| q_48_79 vz19.2 x (if sg = 0 then vz19.1 else (-vz19.1)) k) (QQ T q h (if (dgs T 6 s5.1 (-1)).1 = -1 then (false, ((dgs T 6 s5.1 (-1)).2, s5.2)) else rqs T x (re ((dgs T 6 s5.1 (-1)).2, s5.2) k (nv (dgs T 6 s5.1 (-1)).1))).1 (if (dgs T 6 s5.1 (-1)).1 = -1 then (false, ((dgs T 6 s5.1 (-1)).2, s5.2)) else rqs T x (re ((dgs T 6 s5.1 (-1)).2, s5.2) k (nv (dgs T 6 s5.1 (-1)).1))).2) := by
    intro g sg s5 nv Hg hf hnv
    obtain ⟨h1, a1, a2, a3⟩ := c_38 Hg
    rw [a1]
    simp only [Option.bind_some]
    by_cases hn : (dgs T 6 s5.1 (-1)).1 = -1
    · rw [if_pos hn, if_pos hn]
      exact ok_some ⟨rfl, a2, rfr_trans hf a3⟩
    · rw [if_neg hn, if_neg hn, rs24 a2]
      simp only [w_gd, q_48_79, hnv]
      obtain ⟨h2, b1, b2, b3⟩ := c_add (k := k) (d := nv (dgs T 6 s5.1 (-1)).1) a2
      rw [b1]
      simp only [Option.bind_some]
      refine ok_mono (c_49 (x := x) b2 _ (fun g => rfl) ?_) ?_
      · intro g s1 Hs
        dsimp only
        rw [if_neg (by decide), rs24 Hs]
        simp only [w_gd]
        obtain ⟨g1, d1, d2, d3⟩ := c_add (k := 12) (d := x) Hs
        rw [d1]
        simp only [Option.bind_some]
        rw [rs24 d2]
        simp only [w_gd]
        obtain ⟨g2, e1, e2, e3⟩ := c_add (k := 1) (d := x) d2
        rw [e1]
        simp only [Option.bind_some]
        rw [rs24 e2]
        simp only [w_gd]
        obtain ⟨g3, f1, f2, f3⟩ := c_add (k := 14) (d := 0) e2
        rw [f1]
        simp only [Option.bind_some]
        rw [rs24 f2]
        obtain ⟨p1, p2⟩ := rs_def (x := 1 <<< (x &&& 31)) f2
        exact ok_some ⟨rfl, p1, rfr_trans d3 (rfr_trans e3 (rfr_trans f3 p2))⟩
      · intro r hr
        exact QQ_tr (rfr_trans hf (rfr_trans a3 b3)) hr
  rcases c_skip (x := 45) H (by decide) with ⟨c1, h1, a1, a2, a3⟩ | ⟨c1, a1⟩
  · rw [a1]
    simp only [Option.bind_some, c1, if_true]
    exact tl h1 1 (ra s) (fun n => -n) a2 a3 (fun n => if_neg (by decide))
  · rw [a1]
    simp only [Option.bind_some, c1, if_false]
    exact tl h 0 s (fun n => n) H rfr_refl (fun n => if_pos rfl)
theorem c_48 (H : rs T q h s) : ok (p_48 h) (QQ T q h (rqu T s).1 (rqu T s).2) := by
  unfold p_48 rqu
  rcases c_37 H with ⟨c1, h1, a1, a2, a3⟩ | ⟨c1, a1⟩
  · rw [a1, if_pos c1]
    simp only [Option.bind_some]
    rw [if_neg (isL_ne c1)]
    rcases c_skip (x := 61) a2 (by decide) with ⟨c2, h2, b1, b2, b3⟩ | ⟨c2, b1⟩
    · have c2' : cat T (s.1 + 1) = 61 := c2
      rw [b1, if_pos c2']
      simp only [Option.bind_some]
      rw [if_neg (by decide)]
      rcases c_37 b2 with ⟨c3, h3, d1, d2, d3⟩ | ⟨c3, d1⟩
      · have c3' : isL (cat T (s.1 + 2)) = true := c3
        have e3 : cat T (ra (ra s)).1 = cat T (s.1 + 2) := rfl
        rw [d1, if_pos c3']
        simp only [Option.bind_some]
        rw [if_neg (isL_ne c3), rs24 d2, e3]
        obtain ⟨h4, f1, f2, f3⟩ := c_add (k := 1) (d := cat T (s.1 + 2) - 97) d2
        simp only [w_gd]
        rw [f1]
        simp only [Option.bind_some]
        rw [rs24 f2]
        simp only [w_let]
        obtain ⟨p1, p2⟩ := rs_use (x := 1 <<< ((cat T (s.1 + 2) - 97) &&& 31)) f2
        have hf : rfr h (w_up h4 24 7 (1 <<< ((cat T (s.1 + 2) - 97) &&& 31))) := rfr_trans a3 (rfr_trans b3 (rfr_trans d3 (rfr_trans f3 p2)))
        generalize w_up h4 24 7 (1 <<< ((cat T (s.1 + 2) - 97) &&& 31)) = h5 at *
        generalize hs3 : ru (re (ra (ra (ra s))) 1 (cat T (s.1 + 2) - 97)) (1 <<< ((cat T (s.1 + 2) - 97) &&& 31)) = s3 at *
        have e4 : cat T s3.1 = cat T (s.1 + 3) := by rw [← hs3]; rfl
        rw [← e4]
        have go : ∀ (k : Int32) (g : Hp), ¬ k = -1 → rs T q g (ra s3) → rfr h5 g → ok (q_48_52 g (cat T s.1 - 97) k) (QQ T q h (rqn T (cat T s.1 - 97) k (ra s3)).1 (rqn T (cat T s.1 - 97) k (ra s3)).2) := by
          intro k g hk Hg hg
          refine ok_mono (c_48n Hg hk) ?_
          intro r hr
          exact QQ_tr (rfr_trans hf hg) hr
        rcases c_skip (x := 60) p1 (by decide) with ⟨g1, h6, m1, m2, m3⟩ | ⟨g1, m1⟩
        · rw [m1, if_pos g1]
          simp only [Option.bind_some]
          rw [if_neg (by decide)]
          exact go 15 h6 (by decide) m2 m3
        rw [m1, if_neg g1]
        simp only [Option.bind_some, if_true]
        rcases c_skip (x := 62) p1 (by decide) with ⟨g1, h6, m1, m2, m3⟩ | ⟨g1, m1⟩
        · rw [m1, if_pos g1]
          simp only [Option.bind_some]
          rw [if_neg (by decide)]
          exact go 16 h6 (by decide) m2 m3
        rw [m1, if_neg g1]
        simp only [Option.bind_some, if_true]
        rcases c_skip (x := 61) p1 (by decide) with ⟨g1, h6, m1, m2, m3⟩ | ⟨g1, m1⟩
        · rw [m1, if_pos g1]
          simp only [Option.bind_some]
          rw [if_neg (by decide)]
          exact go 17 h6 (by decide) m2 m3
        rw [m1, if_neg g1]
        simp only [Option.bind_some, if_true, q_48_52]
        exact ok_some ⟨rfl, p1, hf⟩
      · have c3' : isL (cat T (s.1 + 2)) = false := c3
        rw [d1, if_neg (by rw [c3']; decide)]
        exact ok_some ⟨rfl, b2, rfr_trans a3 b3⟩
    · have c2' : ¬ cat T (s.1 + 1) = 61 := c2
      rw [b1, if_neg c2']
      exact ok_some ⟨rfl, a2, a3⟩
  · rw [a1, if_neg (by rw [c1]; decide)]
    exact ok_some ⟨rfl, H, rfr_refl⟩
end R48
