/-! ===== THE PURE INTERPRETER: cells by relative addresses (.ref 0 the script, .ref (i+1) the cell i), one step, a run ===== -/
abbrev jE : Type := Nat × List Value
abbrev jM : Type := Nat × Nat × Bool × List jE
/-- op, pc, a, b, c -/
abbrev jI : Type := Nat × Nat × Nat × Nat × Nat
abbrev jF : Type := Nat × List Value × List Value
abbrev jO : Type := (Option Value ⊕ Nat) × jM
abbrev jR : Type := (jF × jM) ⊕ ((Nat × List Value × List Value × jM) ⊕ jO)
/-- code, max locals, handlers (from, to, handler, class, local), targets of the switch -/
abbrev jMt : Type := List jI × Nat × List (Nat × Nat × Nat × Nat × Nat) × List Nat
def j_fty (t : Nat) : Nat → FieldType := match t with
  | 0 => tyX0 | 1 => tyX1 | 2 => tyX2 | 3 => tyX3 | 4 => tyX4 | 5 => tyX5 | 6 => tyX6 | 7 => tyX7 | 8 => tyX8 | 9 => tyX9 | 10 => tyX10 | 11 => tyX11 | _ => tyX12
def j_N (t : Nat) : Nat := match t with
  | 0 => 17 | 1 => 8 | 2 => 3 | 3 => 3 | 4 => 5 | 5 => 5 | 6 => 6 | 7 => 2 | 8 => 2 | 9 => 9 | 10 => 8 | 11 => 18 | _ => 81
def j_iv : Value → Int32
  | .int x => x
  | _ => 0
def j_lv : Value → Int64
  | .long x => x
  | _ => 0
def j_at (m : jM) (i : Nat) : Option jE := m.2.2.2[i]?
def j_up (m : jM) (i : Nat) (c : jE) : jM := (m.1, m.2.1, m.2.2.1, m.2.2.2.set i c)
def j_push (m : jM) (c : jE) (n : Nat) : jM := (m.1 + 1, m.2.1 + n, m.2.2.1, m.2.2.2 ++ [c])
def j_nar (t : Nat) (x : Int32) : Int32 := if t = 50 then x else if t = 51 then vp_nar .char x else vp_nar .boolean x
def j_dft (t : Nat) : Value := if t = 53 then .long 0 else if t < 60 then .int 0 else .null
def j_comp (t : Nat) : Nat := if t = 60 then 7 else if t = 61 then 0 else 3
def j_bin (a : Nat) (x y : Int32) : Option Int32 := match a with
  | 0 => some (x + y)
  | 1 => some (x - y)
  | 2 => some (x * y)
  | 3 => some (x &&& y)
  | 4 => some (x ||| y)
  | 5 => some (x ^^^ y)
  | 6 => some (x <<< (y &&& 31))
  | 7 => some (x >>> (y &&& 31))
  | 8 => some ((x.toUInt32 >>> (y.toUInt32 &&& Int32.toUInt32 31)).toInt32)
  | 9 => if y = 0 then none else some (x / y)
  | 10 => if y = 0 then none else some (x - x / y * y)
  | _ => none
def j_cond (a : Nat) (x y : Int32) : Bool := match a with
  | 0 => decide (x = y)
  | 1 => !decide (x = y)
  | 2 => decide (x < y)
  | 3 => !decide (x < y)
  | 4 => !decide (x ≤ y)
  | _ => decide (x ≤ y)
def j_cpy (vs us : List Value) (sp dp n : Nat) : List Value := (List.range us.length).map (fun j => if dp ≤ j ∧ j < dp + n then .int (j_iv (vs.getD (sp + (j - dp)) .null)) else us.getD j .null)
def j_ok (i : Nat) (L S : List Value) (m : jM) : Option jR := some (.inl ((i, L, S), m))
def j_call (a b : Nat) (i : Nat) (L S : List Value) (m : jM) : Option jR :=
  if S.length < b ∨ 8 < ((S.drop b).map fun v => v.category).sum ∨ (S.take b).all (fun v => decide (v.category = 1)) = false then none else some (.inr (.inl (a, (S.take b).reverse, S.drop b, m)))
def j_recv (m : jM) (c : Nat) (args : List Value) : Bool := match args with
  | .ref (q + 1) :: _ => match j_at m q with
    | some (t, _) => t == c
    | none => false
  | _ => false
def j_do (sw : List Nat) (X : List Int32) (op a b c i : Nat) (L S : List Value) (m : jM) : Option jR :=
  match op with
  | 0 => j_ok (i + 1) L (.int (Int32.ofNat a) :: S) m
  | 1 => match L[a]? with
    | some (.int x) => j_ok (i + 1) L (.int x :: S) m
    | _ => none
  | 2 => match L[a]? with
    | some (.ref x) => j_ok (i + 1) L (.ref x :: S) m
    | some .null => j_ok (i + 1) L (.null :: S) m
    | _ => none
  | 3 => match S with
    | .int x :: S => if a < L.length then j_ok (i + 1) (L.set a (.int x)) S m else none
    | _ => none
  | 4 => match S with
    | .ref x :: S => if a < L.length then j_ok (i + 1) (L.set a (.ref x)) S m else none
    | .null :: S => if a < L.length then j_ok (i + 1) (L.set a .null) S m else none
    | _ => none
  | 5 => match L[a]? with
    | some (.int x) => j_ok (i + 1) (L.set a (.int (x + Int32.ofNat b))) S m
    | _ => none
  | 6 => match S with
    | .int y :: .int x :: S => match j_bin a x y with
      | some z => j_ok (i + 1) L (.int z :: S) m
      | none => none
    | _ => none
  | 7 => match S with
    | .int x :: S => j_ok (i + 1) L (.int (if a = 0 then -x else (x.toUInt32 % 65536).toInt32) :: S) m
    | _ => none
  | 8 => match S with
    | .int x :: S => j_ok (if j_cond a x 0 = true then b else i + 1) L S m
    | _ => none
  | 9 => match S with
    | .int y :: .int x :: S => j_ok (if j_cond a x y = true then b else i + 1) L S m
    | _ => none
  | 10 => j_ok b L S m
  | 11 => match S with
    | .null :: S => j_ok b L S m
    | .ref _ :: S => j_ok (i + 1) L S m
    | _ => none
  | 12 => match S with
    | .null :: S => j_ok (i + 1) L S m
    | .ref _ :: S => j_ok b L S m
    | _ => none
  | 13 => match S with
    | v :: S => if v.category = 1 then j_ok (i + 1) L (v :: v :: S) m else none
    | _ => none
  | 14 => match S with
    | v :: S => if v.category = 1 then j_ok (i + 1) L S m else none
    | _ => none
  | 15 => match S with
    | u :: v :: S => if u.category = 1 ∧ v.category = 1 then j_ok (i + 1) L (u :: v :: u :: v :: S) m else none
    | _ => none
  | 16 => match S with
    | .ref (q + 1) :: S => match j_at m q with
      | some (t, fs) => if t = a then match fs[b]? with
          | some v => j_ok (i + 1) L (v :: S) m
          | none => none
        else none
      | none => none
    | _ => none
  | 17 => match S with
    | v :: .ref (q + 1) :: S => match j_at m q with
      | some (t, fs) => if t = a ∧ b < fs.length ∧ fits (j_fty a b) v = true then j_ok (i + 1) L S (j_up m q (t, fs.set b v)) else none
      | none => none
    | _ => none
  | 18 => match S with
    | v :: .ref (q + 1) :: S => match j_at m q with
      | some (t, fs) => if t = a ∧ b < fs.length ∧ fits (j_fty a b) v = true then j_ok (i + 1) L S (j_up m q (t, fs.set b v)) else none
      | none => none
    | _ => none
  | 19 => if m.2.2.1 = true then j_ok (i + 1) L (.ref (m.2.2.2.length + 1) :: S) (j_push m (a, (List.range (j_N a)).map (fun k => defaultValue (j_fty a k))) (j_N a)) else none
  | 20 => match S with
    | .int n :: S => if n < 0 ∨ 1000000 < n.toNatClampNeg then none else if m.2.2.1 = true then j_ok (i + 1) L (.ref (m.2.2.2.length + 1) :: S) (j_push m (a, List.replicate n.toNatClampNeg (j_dft a)) n.toNatClampNeg) else none
    | _ => none
  | 21 => match S with
    | .int n :: S => if n < 0 ∨ 1000000 < n.toNatClampNeg then none else if m.2.2.1 = true then j_ok (i + 1) L (.ref (m.2.2.2.length + 1) :: S) (j_push m (a, List.replicate n.toNatClampNeg (j_dft a)) n.toNatClampNeg) else none
    | _ => none
  | 22 => match S with
    | .int j :: .ref (q + 1) :: S => match j_at m q with
      | some (t, vs) => if t = a then if j < 0 ∨ vs.length ≤ j.toNatClampNeg then none else j_ok (i + 1) L (.int (j_iv (vs.getD j.toNatClampNeg .null)) :: S) m else none
      | none => none
    | _ => none
  | 23 => match S with
    | .int x :: .int j :: .ref (q + 1) :: S => match j_at m q with
      | some (t, vs) => if t = a then if j < 0 ∨ vs.length ≤ j.toNatClampNeg then none else j_ok (i + 1) L S (j_up m q (t, vs.set j.toNatClampNeg (.int (j_nar a x)))) else none
      | none => none
    | _ => none
  | 24 => match S with
    | .int j :: .ref (q + 1) :: S => match j_at m q with
      | some (t, vs) => if t = a then if j < 0 ∨ vs.length ≤ j.toNatClampNeg then none else match vs.getD j.toNatClampNeg (.int 0) with
          | .ref x => j_ok (i + 1) L (.ref x :: S) m
          | .null => j_ok (i + 1) L (.null :: S) m
          | _ => none
        else none
      | none => none
    | _ => none
  | 25 => match S with
    | .ref (z + 1) :: .int j :: .ref (q + 1) :: S => match j_at m q, j_at m z with
      | some (t, vs), some (u, _) => if t = a ∧ u = j_comp a then if j < 0 ∨ vs.length ≤ j.toNatClampNeg then none else j_ok (i + 1) L S (j_up m q (t, vs.set j.toNatClampNeg (.ref (z + 1)))) else none
      | _, _ => none
    | _ => none
  | 26 => match S with
    | .ref 0 :: S => j_ok (i + 1) L (.int (Int32.ofNat X.length) :: S) m
    | _ => none
  | 27 => if j_recv m c (S.take b).reverse = true then j_call a b i L S m else none
  | 28 => if j_recv m c (S.take b).reverse = true then j_call a b i L S m else none
  | 29 => j_call a b i L S m
  | 30 => j_call a b i L S m
  | 31 => if j_recv m c (S.take b).reverse = true then j_call a b i L S m else none
  | 32 => if j_recv m c (S.take b).reverse = true then j_call a b i L S m else none
  | 33 => match S with
    | [] => some (.inr (.inr (.inl none, m)))
    | _ => none
  | 34 => match S with
    | [.int v] => if a = 0 ∨ v &&& 1 = v then some (.inr (.inr (.inl (some (.int v)), m))) else none
    | _ => none
  | 35 => match S with
    | [.ref x] => some (.inr (.inr (.inl (some (.ref x)), m)))
    | [.null] => some (.inr (.inr (.inl (some .null), m)))
    | _ => none
  | 36 => if 40 < (S.map fun v => v.category).sum then none else some (.inr (.inr (.inr a, (m.1 + 1, m.2.1 + 6, false, m.2.2.2))))
  | 37 => match S with
    | .int x :: S => if x < 0 then j_ok b L S m else j_ok (sw.getD x.toNatClampNeg b) L S m
    | _ => none
  | 38 => j_ok (i + 1) L (.long (Int64.ofNat a) :: S) m
  | 39 => match S with
    | .int x :: S => j_ok (i + 1) L (.long x.toInt64 :: S) m
    | _ => none
  | 40 => match S with
    | .int j :: .ref (q + 1) :: S => match j_at m q with
      | some (t, vs) => if t = 53 then if j < 0 ∨ vs.length ≤ j.toNatClampNeg then none else j_ok (i + 1) L (.long (j_lv (vs.getD j.toNatClampNeg .null)) :: S) m else none
      | none => none
    | _ => none
  | 41 => match S with
    | .long x :: .int j :: .ref (q + 1) :: S => match j_at m q with
      | some (t, vs) => if t = 53 then if j < 0 ∨ vs.length ≤ j.toNatClampNeg then none else j_ok (i + 1) L S (j_up m q (t, vs.set j.toNatClampNeg (.long x))) else none
      | none => none
    | _ => none
  | 42 => match S with
    | .long y :: .long x :: S => j_ok (i + 1) L (.int (lg_cmp x y) :: S) m
    | _ => none
  | 43 => j_ok (i + 1) L (.null :: S) m
  | 44 => match S with
    | .ref (_ + 1) :: S => if 8 < (S.map fun v => v.category).sum then none else j_ok (i + 1) L S m
    | _ => none
  | 45 => match S with
    | .int y :: .int x :: S => if 8 < (S.map fun v => v.category).sum then none else j_ok (i + 1) L (.int (if x < y then y else x) :: S) m
    | _ => none
  | 46 => match S with
    | .int y :: .int x :: S => if 8 < (S.map fun v => v.category).sum then none else j_ok (i + 1) L (.int (if y < x then y else x) :: S) m
    | _ => none
  | 47 => match S with
    | .int n :: .int dp :: .ref (z + 1) :: .int sp :: .ref (q + 1) :: S => match j_at m q, j_at m z with
      | some (t, vs), some (u, us) => if t = 50 ∧ u = 50 ∧ ¬ sp < 0 ∧ ¬ dp < 0 ∧ ¬ n < 0 ∧ sp.toNatClampNeg + n.toNatClampNeg ≤ vs.length ∧ dp.toNatClampNeg + n.toNatClampNeg ≤ us.length ∧ (S.map fun v => v.category).sum ≤ 8
          then j_ok (i + 1) L S (m.1, m.2.1, false, m.2.2.2.set z (u, j_cpy vs us sp.toNatClampNeg dp.toNatClampNeg n.toNatClampNeg)) else none
      | _, _ => none
    | _ => none
  | 48 => match S with
    | .int j :: .ref 0 :: S => if j < 0 ∨ X.length ≤ j.toNatClampNeg then none else j_ok (i + 1) L (.int (X.getD j.toNatClampNeg 0) :: S) m
    | _ => none
  | 49 => j_call a b i L S m
  | _ => none
def j_step (mt : jMt) (X : List Int32) (f : jF) (m : jM) : Option jR :=
  match mt.1[f.1]? with
  | none => none
  | some (op, _, a, b, c) => j_do mt.2.2.2 X op a b c f.1 f.2.1 f.2.2 m
def j_hand (hs : List (Nat × Nat × Nat × Nat × Nat)) (i x : Nat) : Option (Nat × Nat) := match hs with
  | [] => none
  | (lo, hi, h, k, e) :: hs => if lo ≤ i ∧ i < hi ∧ k = x then some (h, e) else j_hand hs i x
/-- the locals with which a method begins -/
def j_ent (maxL : Nat) (args : List Value) : List Value := args ++ List.replicate (maxL - args.length) (.retAddr 0)
def j_ret (v : Option Value) (rest : List Value) : List Value := match v with
  | some v => v :: rest
  | none => rest
def j_go (P : List jMt) (X : List Int32) : Nat → Nat → Nat → jF → jM → Option jO
  | 0, _, _, _, _ => none
  | n + 1, d, k, f, m =>
    match P[k]? with
    | none => none
    | some mt =>
      match j_step mt X f m with
      | none => none
      | some (.inl (f', m')) => j_go P X n d k f' m'
      | some (.inr (.inr o)) => some o
      | some (.inr (.inl (k', args, rest, m'))) =>
        match d, P[k']? with
        | d' + 1, some mt' =>
          match j_go P X n d' k' (0, j_ent mt'.2.1 args, []) m' with
          | none => none
          | some (.inl v, m'') => j_go P X n (d' + 1) k (f.1 + 1, f.2.1, j_ret v rest) m''
          | some (.inr x, m'') => match j_hand mt.2.2.1 f.1 x with
            | none => none
            | some (h, z) => j_go P X n (d' + 1) k (h, f.2.1.set z (.retAddr 0), []) m''
        | _, _ => none
