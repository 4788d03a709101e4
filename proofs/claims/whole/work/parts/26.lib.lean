/-! ===== library for what follows: integers, loops, what a program gives ===== -/
theorem u_toInt {a : Nat} (h : a < 2147483648) : (Int32.ofNat a).toInt = a := Int32.toInt_ofNat_of_lt h
theorem u_lt {a b : Nat} (ha : a < 2147483648) (hb : b < 2147483648) : Int32.ofNat a < Int32.ofNat b ↔ a < b := by
  rw [Int32.lt_iff_toInt_lt, u_toInt ha, u_toInt hb]; omega
theorem u_le {a b : Nat} (ha : a < 2147483648) (hb : b < 2147483648) : Int32.ofNat a ≤ Int32.ofNat b ↔ a ≤ b := by
  rw [Int32.le_iff_toInt_le, u_toInt ha, u_toInt hb]; omega
theorem u_inj {a b : Nat} (ha : a < 2147483648) (hb : b < 2147483648) : Int32.ofNat a = Int32.ofNat b ↔ a = b := by
  rw [← Int32.toInt_inj, u_toInt ha, u_toInt hb]; omega
theorem u_cl {a : Nat} (ha : a < 2147483648) : (Int32.ofNat a).toNatClampNeg = a := by
  show (Int32.ofNat a).toInt.toNat = a
  rw [u_toInt ha]; rfl
theorem u_add (a b : Nat) : Int32.ofNat a + Int32.ofNat b = Int32.ofNat (a + b) := (Int32.ofNat_add a b).symm
theorem u_mul (a b : Nat) : Int32.ofNat a * Int32.ofNat b = Int32.ofNat (a * b) := (Int32.ofNat_mul a b).symm
theorem u_sub {a b : Nat} (h : b ≤ a) : Int32.ofNat a - Int32.ofNat b = Int32.ofNat (a - b) := by
  have := u_add (a - b) b
  rw [Nat.sub_add_cancel h] at this
  rw [← this, Int32.add_sub_cancel]
theorem u_ltL {a n : Nat} (ha : a < 2147483648) (hb : n < 2147483648) : Int32.ofNat a < (OfNat.ofNat n : Int32) ↔ a < n := u_lt ha hb
theorem u_leL {a n : Nat} (ha : a < 2147483648) (hb : n < 2147483648) : Int32.ofNat a ≤ (OfNat.ofNat n : Int32) ↔ a ≤ n := u_le ha hb
theorem u_Llt {a n : Nat} (ha : a < 2147483648) (hb : n < 2147483648) : (OfNat.ofNat n : Int32) < Int32.ofNat a ↔ n < a := u_lt hb ha
theorem u_Lle {a n : Nat} (ha : a < 2147483648) (hb : n < 2147483648) : (OfNat.ofNat n : Int32) ≤ Int32.ofNat a ↔ n ≤ a := u_le hb ha
theorem u_eqL {a n : Nat} (ha : a < 2147483648) (hb : n < 2147483648) : Int32.ofNat a = (OfNat.ofNat n : Int32) ↔ a = n := u_inj ha hb
theorem u_addL (a n : Nat) : Int32.ofNat a + (OfNat.ofNat n : Int32) = Int32.ofNat (a + n) := u_add a n
theorem u_mulL (a n : Nat) : Int32.ofNat a * (OfNat.ofNat n : Int32) = Int32.ofNat (a * n) := u_mul a n
theorem u_Lmul (a n : Nat) : (OfNat.ofNat n : Int32) * Int32.ofNat a = Int32.ofNat (n * a) := u_mul n a
theorem u_Ladd (a n : Nat) : (OfNat.ofNat n : Int32) + Int32.ofNat a = Int32.ofNat (n + a) := u_add n a
theorem u_subL {a n : Nat} (h : n ≤ a) : Int32.ofNat a - (OfNat.ofNat n : Int32) = Int32.ofNat (a - n) := u_sub h
theorem u_clL {n : Nat} (h : n < 2147483648) : (OfNat.ofNat n : Int32).toNatClampNeg = n := u_cl h
theorem u_lt0 {a : Nat} (ha : a < 2147483648) : ¬ Int32.ofNat a < 0 := by
  show ¬ Int32.ofNat a < Int32.ofNat 0
  rw [u_lt ha (by decide)]; omega
theorem u_ix {a n : Nat} (h : a < n) (hn : n ≤ 2147483648) : w_ix (Int32.ofNat a) n = true := by
  apply decide_eq_true
  rintro (h1 | h1)
  · exact u_lt0 (by omega) h1
  · rw [u_cl (by omega)] at h1; omega
/-- every number from 0 up is one of a natural number -/
theorem u_nat {x : Int32} (h : ¬ x < 0) : x = Int32.ofNat x.toNatClampNeg ∧ x.toNatClampNeg < 2147483648 := by
  have h0 : ¬ x.toInt < 0 := fun hn => h (Int32.lt_iff_toInt_lt.mpr (by simpa using hn))
  have h1 : x.toNatClampNeg < 2147483648 := by
    show x.toInt.toNat < 2147483648
    have := Int32.toInt_lt x
    omega
  refine ⟨?_, h1⟩
  apply Int32.toInt_inj.mp
  rw [u_toInt h1]
  show x.toInt = (x.toInt.toNat : Int)
  omega
theorem u_natlt {x : Int32} {n : Nat} (h : ¬ x < 0) (h2 : x < (OfNat.ofNat n : Int32)) (hn : n < 2147483648) : x = Int32.ofNat x.toNatClampNeg ∧ x.toNatClampNeg < n := by
  obtain ⟨e, hl⟩ := u_nat h
  refine ⟨e, ?_⟩
  rw [e, u_ltL hl hn] at h2
  exact h2
/-! what a program gives -/
def ok {α : Type} (x : Option α) (Q : α → Prop) : Prop := ∃ r, x = some r ∧ Q r
theorem ok_some {α : Type} {r : α} {Q : α → Prop} (h : Q r) : ok (some r) Q := ⟨r, rfl, h⟩
theorem ok_gd {α : Type} {g : Bool} {x : Option α} {Q : α → Prop} (h : g = true) (hx : ok x Q) : ok (w_gd g x) Q := by
  subst h; exact hx
theorem ok_let {α β : Type} {a : α} {f : α → Option β} {Q : β → Prop} (h : ok (f a) Q) : ok (w_let a f) Q := h
theorem ok_if {α : Type} {c : Prop} [Decidable c] {A B : Option α} {Q : α → Prop} (hT : c → ok A Q) (hF : ¬ c → ok B Q) : ok (if c then A else B) Q := by
  by_cases hc : c
  · rw [if_pos hc]; exact hT hc
  · rw [if_neg hc]; exact hF hc
theorem ok_T {α : Type} {c : Prop} [Decidable c] {A B : Option α} {Q : α → Prop} (hc : c) (hT : ok A Q) : ok (if c then A else B) Q := by
  rw [if_pos hc]; exact hT
theorem ok_F {α : Type} {c : Prop} [Decidable c] {A B : Option α} {Q : α → Prop} (hc : ¬ c) (hT : ok B Q) : ok (if c then A else B) Q := by
  rw [if_neg hc]; exact hT
theorem ok_bind {α β : Type} {x : Option α} {f : α → Option β} {Q : β → Prop} {P : α → Prop} (hx : ok x P) (h : ∀ r, P r → ok (f r) Q) : ok (x.bind f) Q := by
  obtain ⟨r, rfl, hP⟩ := hx
  exact h r hP
theorem ok_bE {α β : Type} {x : Option α} {a : α} {f : α → Option β} {Q : β → Prop} (hx : x = some a) (h : ok (f a) Q) : ok (x.bind f) Q := by
  subst hx; exact h
theorem ok_E {α : Type} {x : Option α} {a : α} {Q : α → Prop} (hx : x = some a) (h : Q a) : ok x Q := ⟨a, hx, h⟩
theorem ok_mono {α : Type} {x : Option α} {P Q : α → Prop} (h : ok x P) (hi : ∀ r, P r → Q r) : ok x Q := by
  obtain ⟨r, e, hP⟩ := h
  exact ⟨r, e, hi r hP⟩
/-- a loop that goes on while a measure falls -/
theorem ok_wh {σ ε : Type} {b : σ → Option (σ ⊕ ε)} (I : Nat → σ → Prop) {Q : ε → Prop} (hs : ∀ m s, I m s → ok (b s) (Sum.elim (fun s' => ∃ m', m' < m ∧ I m' s') Q)) : ∀ (m : Nat) (s : σ) (N : Nat), I m s → m < N → ok (w_lp b N s) Q := by
  intro m
  induction m using Nat.strongRecOn with
  | _ m ih =>
    intro s N h0 hN
    obtain ⟨N, rfl⟩ : ∃ n, N = n + 1 := ⟨N - 1, by omega⟩
    obtain ⟨r, hr, hQ⟩ := hs m s h0
    simp only [w_lp, hr]
    cases r with
    | inl s' =>
      obtain ⟨m', hm, hI⟩ := hQ
      exact ih m' hm s' N hI (by omega)
    | inr e => exact ⟨e, rfl, hQ⟩
/-- a loop over a counter -/
theorem ok_for {σ ε : Type} {b : σ → Option (σ ⊕ ε)} (I : Nat → σ → Prop) (n : Nat) {Q : ε → Prop} {s : σ} {N : Nat} (h0 : I 0 s) (hN : n < N) (hs : ∀ i s, i < n → I i s → ok (b s) (Sum.elim (I (i + 1)) Q)) (he : ∀ s, I n s → ok (b s) (Sum.elim (fun _ => False) Q)) : ok (w_lp b N s) Q := by
  refine ok_wh (fun m s => m ≤ n ∧ I (n - m) s) ?_ n s N ⟨Nat.le_refl n, by rw [Nat.sub_self]; exact h0⟩ hN
  intro m s ⟨hm, hI⟩
  by_cases h : m = 0
  · subst h
    refine ok_mono (he s (by simpa using hI)) ?_
    intro r hr
    cases r with
    | inl s' => exact hr.elim
    | inr e => exact hr
  · refine ok_mono (hs (n - m) s (by omega) hI) ?_
    intro r hr
    cases r with
    | inl s' => exact ⟨m - 1, by omega, by omega, by rw [show n - (m - 1) = n - m + 1 by omega]; exact hr⟩
    | inr e => exact hr
/-- the same with states that are known -/
theorem u_for {σ ε : Type} {b : σ → Option (σ ⊕ ε)} (S : Nat → σ) (n : Nat) {e : ε} {N : Nat} (hN : n < N) (hs : ∀ i, i < n → b (S i) = some (.inl (S (i + 1)))) (he : b (S n) = some (.inr e)) : w_lp b N (S 0) = some e := by
  have : ok (w_lp b N (S 0)) (fun r => r = e) := by
    refine ok_for (fun i s => s = S i) n rfl hN ?_ ?_
    · intro i s hi h; subst h; exact ⟨_, hs i hi, rfl⟩
    · intro s h; subst h; exact ⟨_, he, rfl⟩
  obtain ⟨r, h1, h2⟩ := this
  rw [h1, h2]
/-! rows -/
theorem w_upD (h : Hp) (q b : Nat) (x : Int32) (q' b' : Nat) : w_up h q b x q' b' = if q' = q ∧ b' = b then x else h q' b' := rfl
theorem w_up_at {h : Hp} {q b : Nat} {x : Int32} : w_up h q b x q b = x := by simp [w_upD]
theorem w_up_q {h : Hp} {q b z c : Nat} {x : Int32} (hz : z ≠ q) : w_up h q b x z c = h z c := by simp [w_upD, hz]
theorem w_up_b {h : Hp} {q b z c : Nat} {x : Int32} (hz : c ≠ b) : w_up h q b x z c = h z c := by simp [w_upD, hz]
/-- a row filled from o on -/
def w_fi (h : Hp) (q o n : Nat) (f : Nat → Int32) : Hp := fun q' b => if q' = q ∧ o ≤ b ∧ b < o + n then f (b - o) else h q' b
theorem w_fi0 (h : Hp) (q o : Nat) (f : Nat → Int32) : w_fi h q o 0 f = h := by
  funext q' b
  simp only [w_fi]
  rw [if_neg (by omega)]
theorem w_fiS (h : Hp) (q o n : Nat) (f : Nat → Int32) : w_up (w_fi h q o n f) q (o + n) (f n) = w_fi h q o (n + 1) f := by
  funext q' b
  simp only [w_fi, w_upD]
  by_cases h1 : q' = q ∧ b = o + n
  · obtain ⟨rfl, rfl⟩ := h1
    rw [if_pos ⟨rfl, rfl⟩, if_pos ⟨rfl, by omega, by omega⟩, Nat.add_sub_cancel_left]
  · rw [if_neg h1]
    by_cases h2 : q' = q ∧ o ≤ b ∧ b < o + n
    · rw [if_pos h2, if_pos ⟨h2.1, h2.2.1, by omega⟩]
    · rw [if_neg h2, if_neg (by omega)]
theorem w_fi_at {h : Hp} {q o n b : Nat} {f : Nat → Int32} (h1 : o ≤ b) (h2 : b < o + n) : w_fi h q o n f q b = f (b - o) := by
  simp only [w_fi]; rw [if_pos ⟨trivial, h1, h2⟩]
theorem w_fi_q {h : Hp} {q o n z b : Nat} {f : Nat → Int32} (hz : z ≠ q) : w_fi h q o n f z b = h z b := by
  simp only [w_fi]; rw [if_neg (fun e => hz e.1)]
theorem w_fi_b {h : Hp} {q o n z b : Nat} {f : Nat → Int32} (hb : b < o ∨ o + n ≤ b) : w_fi h q o n f z b = h z b := by
  simp only [w_fi]; rw [if_neg (by omega)]
theorem w_cp_fi (h : Hp) (q z sp dp n : Nat) : w_cp h q z sp dp n = w_fi h z dp n (fun i => h q (sp + i)) := rfl
/-- what stays -/
def w_fr (P : Nat → Prop) (h h' : Hp) : Prop := ∀ q, ¬ P q → h' q = h q
theorem w_fr_refl (P : Nat → Prop) (h : Hp) : w_fr P h h := fun _ _ => rfl
theorem w_fr_trans {P : Nat → Prop} {h h1 h2 : Hp} (a : w_fr P h h1) (b : w_fr P h1 h2) : w_fr P h h2 := fun q hq => (b q hq).trans (a q hq)
theorem w_fr_up {P : Nat → Prop} {h h1 : Hp} {q b : Nat} {x : Int32} (a : w_fr P h h1) (hq : P q) : w_fr P h (w_up h1 q b x) := by
  intro z hz
  have : z ≠ q := fun e => hz (e ▸ hq)
  rw [w_up_ne this]; exact a z hz
theorem w_fr_mono {P P' : Nat → Prop} {h h1 : Hp} (a : w_fr P h h1) (hp : ∀ q, P q → P' q) : w_fr P' h h1 := fun q hq => a q (fun e => hq (hp q e))
/-! bits -/
def bt (x : Int32) (i : Nat) : Bool := x.toBitVec.getLsbD i
theorem bt_ge {x : Int32} {i : Nat} (h : 32 ≤ i) : bt x i = false := BitVec.getLsbD_of_ge _ _ h
theorem bt_ext {x y : Int32} (h : ∀ i, i < 32 → bt x i = bt y i) : x = y := by
  apply Int32.toBitVec_inj.mp
  exact BitVec.eq_of_getLsbD_eq h
theorem bt_or (x y : Int32) (i : Nat) : bt (x ||| y) i = (bt x i || bt y i) := by
  simp [bt, Int32.toBitVec_or]
theorem bt_and (x y : Int32) (i : Nat) : bt (x &&& y) i = (bt x i && bt y i) := by
  simp [bt, Int32.toBitVec_and]
theorem bt_not {x : Int32} {i : Nat} (h : i < 32) : bt (x ^^^ (-1)) i = !bt x i := by
  have : bt (-1) i = true := by
    have : ∀ j, j < 32 → bt (-1) j = true := by decide +kernel
    exact this i h
  have e : bt (x ^^^ (-1)) i = (bt x i ^^ bt (-1) i) := by simp only [bt, Int32.toBitVec_xor, BitVec.getLsbD_xor]
  rw [e, this, Bool.xor_true]
theorem bt_xor (x y : Int32) (i : Nat) : bt (x ^^^ y) i = (bt x i ^^ bt y i) := by
  simp [bt, Int32.toBitVec_xor]
theorem bt_zero (i : Nat) : bt 0 i = false := by simp [bt]
theorem bt_one {k i : Nat} (hk : k < 32) : bt (1 <<< (Int32.ofNat k &&& 31)) i = decide (i = k) := by
  by_cases hi : i < 32
  · have : ∀ k, k < 32 → ∀ i, i < 32 → bt (1 <<< (Int32.ofNat k &&& 31)) i = decide (i = k) := by decide +kernel
    exact this k hk i hi
  · rw [bt_ge (by omega)]
    symm; apply decide_eq_false; omega
theorem bt_0iff {x : Int32} : x = 0 ↔ ∀ i, i < 32 → bt x i = false := by
  constructor
  · rintro rfl i _; exact bt_zero i
  · intro h
    exact bt_ext (fun i hi => by rw [h i hi, bt_zero])
theorem bt_shr {x : Int32} {k : Nat} (hk : k < 32) : (x >>> (Int32.ofNat k &&& 31)) &&& 1 = if bt x k then 1 else 0 := by
  apply bt_ext
  intro i hi
  rw [bt_and]
  have h1 : bt 1 i = decide (i = 0) := by
    have : ∀ i, i < 32 → bt 1 i = decide (i = 0) := by decide +kernel
    exact this i hi
  have hs : ((Int32.ofNat k &&& 31).toBitVec.smod 32).toNat = k := by
    have : ∀ k, k < 32 → ((Int32.ofNat k &&& 31).toBitVec.smod 32).toNat = k := by decide +kernel
    exact this k hk
  rw [h1]
  by_cases h0 : i = 0
  · subst h0
    have : bt (x >>> (Int32.ofNat k &&& 31)) 0 = bt x k := by
      simp only [bt, Int32.toBitVec_shiftRight, BitVec.sshiftRight_eq', hs, BitVec.getLsbD_sshiftRight, Nat.add_zero]
      simp [hk]
    rw [this]
    cases bt x k <;> decide
  · have e2 : bt (if bt x k = true then 1 else 0) i = false := by
      split
      · rw [h1]; exact decide_eq_false h0
      · exact bt_zero i
    rw [e2]; simp [h0]
theorem u_has {x : Int32} {k : Nat} (hk : k < 32) : v_126 x (Int32.ofNat k) = if bt x k then 1 else 0 := by
  unfold v_126
  rw [if_neg (u_lt0 (by omega)), bt_shr hk]
  cases bt x k <;> rfl
