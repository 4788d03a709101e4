/-! ===== facts of the tables; helpers of the printed functions (printed by wip/whole/dec.py) ===== -/
theorem kv_mid {X : List Int32} {d k p : Nat} {L S : List Value} {h : Hp} {o : kO} {f : jF} (A : k_Go X d k (p, L, S) h o) (B : k_Go X d k (p, L, S) h o → k_Go X d k f h o) : k_Go X d k f h o := B A
theorem kv_T {X : List Int32} {d k p : Nat} {L S : List Value} {h : Hp} {o : kO} {c : Prop} [Decidable c] {a b : Int32} (hc : c) (hK : k_Go X d k (p, L, .int (if c then a else b) :: S) h o) : k_Go X d k (p, L, .int a :: S) h o := by rw [if_pos hc] at hK; exact hK
theorem kv_F {X : List Int32} {d k p : Nat} {L S : List Value} {h : Hp} {o : kO} {c : Prop} [Decidable c] {a b : Int32} (hc : ¬ c) (hK : k_Go X d k (p, L, .int (if c then a else b) :: S) h o) : k_Go X d k (p, L, .int b :: S) h o := by rw [if_neg hc] at hK; exact hK
theorem w_boi {c : Prop} [Decidable c] {a b : Int32} (ha : w_bo a = true) (hb : w_bo b = true) : w_bo (if c then a else b) = true := by
  by_cases hc : c
  · rw [if_pos hc]; exact ha
  · rw [if_neg hc]; exact hb
theorem j_div {x y : Int32} (h : y ≠ 0) : j_bin 9 x y = some (x / y) := if_neg h
theorem j_rem {x y : Int32} (h : y ≠ 0) : j_bin 10 x y = some (x - x / y * y) := if_neg h
theorem j_nar50 {x : Int32} : j_nar 50 x = x := rfl
theorem w_fitB {x : Int32} (h : w_bo x = true) : fits .boolean (.int x) = true := h
def w_len (q : Nat) : Nat := match w_tab[q]? with
  | some e => e.2.1
  | none => 0
theorem w_lenE {q n : Nat} (h : w_tab[q]? = some (50, n, [])) : w_tab[q]? = some (50, w_len q, []) := by
  have e : w_len q = n := by unfold w_len; rw [h]
  rw [e]; exact h
def w_th (r : Int32 ⊕ Nat) : Option Value ⊕ Nat := match r with
  | .inl v => .inl (some (.int v))
  | .inr x => .inr x
theorem k_swD {x : Int32} {sw : List Nat} {b : Nat} (h : ∀ j, j < sw.length → ¬ x = Int32.ofNat j) : (if x < 0 then b else sw.getD x.toNatClampNeg b) = b := by
  by_cases hx : x < 0
  · rw [if_pos hx]
  · rw [if_neg hx]
    by_cases hl : x.toNatClampNeg < sw.length
    · refine absurd ?_ (h _ hl)
      have h0 : ¬ x.toInt < 0 := fun hn => hx (Int32.lt_iff_toInt_lt.mpr (by simpa using hn))
      have h1 : x.toNatClampNeg < 2147483648 := by
        show x.toInt.toNat < 2147483648
        have := Int32.toInt_lt x
        omega
      apply Int32.toInt_inj.mp
      rw [Int32.toInt_ofNat_of_lt h1]
      show x.toInt = (x.toInt.toNat : Int)
      omega
    · rw [List.getD_eq_getElem?_getD, List.getElem?_eq_none (by omega)]; rfl
theorem wf_7_1 {q : Nat} (h : w_ob q 7) : w_fd q 7 1 = some 0 := w_F (f := fun _ => 0) (by decide +kernel) h
theorem wf_7_0 {q : Nat} (h : w_ob q 7) : w_fd q 7 0 = some (q + 1 + 1 + 3) := w_F (f := fun q => q + 1 + 1 + 3) (by decide +kernel) h
theorem wo_7_0 {q : Nat} (h : w_ob q 7) : w_tab[q + 1]? = some (51, 40, []) := w_A (f := fun q => q + 1) (by decide +kernel) h
theorem wf_0_0 {q : Nat} (h : w_ob q 0) : w_fd q 0 0 = some (q + 1 + 1 + 3) := w_F (f := fun q => q + 1 + 1 + 3) (by decide +kernel) h
theorem wo_0_0 {q : Nat} (h : w_ob q 0) : w_ob (q + 1) 7 := w_O (f := fun q => q + 1) (by decide +kernel) h
theorem wf_8_0 {q : Nat} (h : w_ob q 8) : w_fd q 8 0 = some (q + 1 + 1 + 3) := w_F (f := fun q => q + 1 + 1 + 3) (by decide +kernel) h
theorem wo_8_0 {q : Nat} (h : w_ob q 8) : w_tab[q + 1]? = some (50, 27, []) := w_A (f := fun q => q + 1) (by decide +kernel) h
theorem wf_8_1 {q : Nat} (h : w_ob q 8) : w_fd q 8 1 = some (q + 2 + 1 + 3) := w_F (f := fun q => q + 2 + 1 + 3) (by decide +kernel) h
theorem wo_8_1 {q : Nat} (h : w_ob q 8) : w_tab[q + 2]? = some (50, 216, []) := w_A (f := fun q => q + 2) (by decide +kernel) h
theorem wf_3_0 {q : Nat} (h : w_ob q 3) : w_fd q 3 0 = some (q + 1 + 1 + 3) := w_F (f := fun q => q + 1 + 1 + 3) (by decide +kernel) h
theorem wo_3_0 {q : Nat} (h : w_ob q 3) : w_ob (q + 1) 7 := w_O (f := fun q => q + 1) (by decide +kernel) h
theorem wf_3_1 {q : Nat} (h : w_ob q 3) : w_fd q 3 1 = some (q + 3 + 1 + 3) := w_F (f := fun q => q + 3 + 1 + 3) (by decide +kernel) h
theorem wo_3_1 {q : Nat} (h : w_ob q 3) : w_ob (q + 3) 8 := w_O (f := fun q => q + 3) (by decide +kernel) h
theorem wf_0_8 {q : Nat} (h : w_ob q 0) : w_fd q 0 8 = some 0 := w_F (f := fun _ => 0) (by decide +kernel) h
theorem wf_0_6 {q : Nat} (h : w_ob q 0) : w_fd q 0 6 = some (q + 26 + 1 + 3) := w_F (f := fun q => q + 26 + 1 + 3) (by decide +kernel) h
theorem wo_0_6 {q : Nat} (h : w_ob q 0) : w_ob (q + 26) 62 := w_O (f := fun q => q + 26) (by decide +kernel) h
def wef_62 : Nat → Nat → Nat := fun q b => 9 * b + q + 2
theorem we_62 : w_every (w_pE 62 4 3 wef_62) 0 w_tab = true := by decide +kernel
theorem wf_3_2 {q : Nat} (h : w_ob q 3) : w_fd q 3 2 = some (q + 6 + 1 + 3) := w_F (f := fun q => q + 6 + 1 + 3) (by decide +kernel) h
theorem wo_3_2 {q : Nat} (h : w_ob q 3) : w_ob (q + 6) 8 := w_O (f := fun q => q + 6) (by decide +kernel) h
theorem wf_0_9 {q : Nat} (h : w_ob q 0) : w_fd q 0 9 = some 0 := w_F (f := fun _ => 0) (by decide +kernel) h
theorem wf_0_2 {q : Nat} (h : w_ob q 0) : w_fd q 0 2 = some (q + 7 + 1 + 3) := w_F (f := fun q => q + 7 + 1 + 3) (by decide +kernel) h
theorem wo_0_2 {q : Nat} (h : w_ob q 0) : w_ob (q + 7) 8 := w_O (f := fun q => q + 7) (by decide +kernel) h
theorem wc_4 : w_ob 4 10 := ⟨8, [9, 10, 11, 12, 13, 14, 0, 0], by decide +kernel⟩
theorem wk_4_7 : w_fd 4 10 7 = some 0 := by decide +kernel
theorem wk_4_3 : w_fd 4 10 3 = some (8 + 1 + 3) := by decide +kernel
theorem wc_8 : w_tab[8]? = some (50, 4, []) := by decide +kernel
theorem wf_0_15 {q : Nat} (h : w_ob q 0) : w_fd q 0 15 = some 0 := w_F (f := fun _ => 0) (by decide +kernel) h
theorem wf_0_14 {q : Nat} (h : w_ob q 0) : w_fd q 0 14 = some 0 := w_F (f := fun _ => 0) (by decide +kernel) h
theorem wf_0_13 {q : Nat} (h : w_ob q 0) : w_fd q 0 13 = some 0 := w_F (f := fun _ => 0) (by decide +kernel) h
theorem wf_0_7 {q : Nat} (h : w_ob q 0) : w_fd q 0 7 = some (q + 27 + 1 + 3) := w_F (f := fun q => q + 27 + 1 + 3) (by decide +kernel) h
theorem wo_0_7 {q : Nat} (h : w_ob q 0) : w_tab[q + 27]? = some (50, 4, []) := w_A (f := fun q => q + 27) (by decide +kernel) h
theorem wf_1_3 {q : Nat} (h : w_ob q 1) : w_fd q 1 3 = some 0 := w_F (f := fun _ => 0) (by decide +kernel) h
theorem wf_1_4 {q : Nat} (h : w_ob q 1) : w_fd q 1 4 = some 0 := w_F (f := fun _ => 0) (by decide +kernel) h
theorem wf_1_5 {q : Nat} (h : w_ob q 1) : w_fd q 1 5 = some 0 := w_F (f := fun _ => 0) (by decide +kernel) h
theorem wf_1_6 {q : Nat} (h : w_ob q 1) : w_fd q 1 6 = some 0 := w_F (f := fun _ => 0) (by decide +kernel) h
theorem wf_1_7 {q : Nat} (h : w_ob q 1) : w_fd q 1 7 = some 0 := w_F (f := fun _ => 0) (by decide +kernel) h
theorem wf_1_0 {q : Nat} (h : w_ob q 1) : w_fd q 1 0 = some (q + 1 + 1 + 3) := w_F (f := fun q => q + 1 + 1 + 3) (by decide +kernel) h
theorem wo_1_0 {q : Nat} (h : w_ob q 1) : w_tab[q + 1]? = some (50, 41, []) := w_A (f := fun q => q + 1) (by decide +kernel) h
theorem wf_1_1 {q : Nat} (h : w_ob q 1) : w_fd q 1 1 = some (q + 2 + 1 + 3) := w_F (f := fun q => q + 2 + 1 + 3) (by decide +kernel) h
theorem wo_1_1 {q : Nat} (h : w_ob q 1) : w_tab[q + 2]? = some (50, 41, []) := w_A (f := fun q => q + 2) (by decide +kernel) h
theorem wf_1_2 {q : Nat} (h : w_ob q 1) : w_fd q 1 2 = some (q + 3 + 1 + 3) := w_F (f := fun q => q + 3 + 1 + 3) (by decide +kernel) h
theorem wo_1_2 {q : Nat} (h : w_ob q 1) : w_tab[q + 3]? = some (50, 41, []) := w_A (f := fun q => q + 3) (by decide +kernel) h
theorem wc_28 : w_ob 28 4 := ⟨5, [33, 36, 0, 0, 1], by decide +kernel⟩
theorem wk_28_1 : w_fd 28 4 1 = some (32 + 1 + 3) := by decide +kernel
theorem wc_32 : w_ob 32 8 := ⟨2, [37, 38], by decide +kernel⟩
theorem wk_28_2 : w_fd 28 4 2 = some 0 := by decide +kernel
theorem wk_28_0 : w_fd 28 4 0 = some (29 + 1 + 3) := by decide +kernel
theorem wc_29 : w_ob 29 8 := ⟨2, [34, 35], by decide +kernel⟩
theorem wc_40 : w_ob 40 6 := ⟨6, [0, 0, 1, 0, 0, 0], by decide +kernel⟩
theorem wk_40_3 : w_fd 40 6 3 = some 0 := by decide +kernel
theorem wk_40_4 : w_fd 40 6 4 = some 0 := by decide +kernel
theorem wk_40_2 : w_fd 40 6 2 = some 1 := by decide +kernel
theorem wf_2_1 {q : Nat} (h : w_ob q 2) : w_fd q 2 1 = some (q + 3 + 1 + 3) := w_F (f := fun q => q + 3 + 1 + 3) (by decide +kernel) h
theorem wo_2_1 {q : Nat} (h : w_ob q 2) : w_tab[q + 3]? = some (50, 40, []) := w_A (f := fun q => q + 3) (by decide +kernel) h
theorem wk_40_5 : w_fd 40 6 5 = some 0 := by decide +kernel
theorem wf_2_2 {q : Nat} (h : w_ob q 2) : w_fd q 2 2 = some 0 := w_F (f := fun _ => 0) (by decide +kernel) h
theorem wk_40_0 : w_fd 40 6 0 = some 0 := by decide +kernel
theorem wk_40_1 : w_fd 40 6 1 = some 0 := by decide +kernel
theorem wk_28_4 : w_fd 28 4 4 = some 1 := by decide +kernel
theorem wk_28_3 : w_fd 28 4 3 = some 0 := by decide +kernel
theorem wc_17 : w_ob 17 5 := ⟨5, [1, 1, 0, 0, 0], by decide +kernel⟩
theorem wk_17_0 : w_fd 17 5 0 = some 1 := by decide +kernel
theorem wk_17_2 : w_fd 17 5 2 = some 0 := by decide +kernel
theorem wk_17_1 : w_fd 17 5 1 = some 1 := by decide +kernel
theorem wc_24 : w_ob 24 1 := ⟨8, [29, 30, 31, 0, 0, 0, 0, 0], by decide +kernel⟩
theorem wk_24_5 : w_fd 24 1 5 = some 0 := by decide +kernel
theorem wk_24_6 : w_fd 24 1 6 = some 0 := by decide +kernel
theorem wk_24_7 : w_fd 24 1 7 = some 0 := by decide +kernel
theorem wk_17_3 : w_fd 17 5 3 = some 0 := by decide +kernel
theorem wk_17_4 : w_fd 17 5 4 = some 0 := by decide +kernel
theorem wf_2_0 {q : Nat} (h : w_ob q 2) : w_fd q 2 0 = some (q + 1 + 1 + 3) := w_F (f := fun q => q + 1 + 1 + 3) (by decide +kernel) h
theorem wo_2_0 {q : Nat} (h : w_ob q 2) : w_ob (q + 1) 7 := w_O (f := fun q => q + 1) (by decide +kernel) h
theorem wc_11 : w_ob 11 9 := ⟨9, [16, 17, 18, 19, 20, 0, 0, 0, 0], by decide +kernel⟩
theorem wc_2 : w_ob 2 61 := ⟨16, [56, 120, 184, 248, 312, 376, 440, 504, 568, 632, 696, 760, 824, 888, 952, 1016], by decide +kernel⟩
theorem wk_11_0 : w_fd 11 9 0 = some (12 + 1 + 3) := by decide +kernel
theorem wc_12 : w_tab[12]? = some (50, 26, []) := by decide +kernel
theorem wk_11_1 : w_fd 11 9 1 = some (13 + 1 + 3) := by decide +kernel
theorem wc_13 : w_tab[13]? = some (50, 26, []) := by decide +kernel
theorem wk_11_8 : w_fd 11 9 8 = some 0 := by decide +kernel
def wef_61 : Nat → Nat → Nat := fun _ b => 64 * b + 52
theorem we_61 : w_every (w_pE 61 16 0 wef_61) 0 w_tab = true := by decide +kernel
theorem wf_0_1 {q : Nat} (h : w_ob q 0) : w_fd q 0 1 = some (q + 3 + 1 + 3) := w_F (f := fun q => q + 3 + 1 + 3) (by decide +kernel) h
theorem wo_0_1 {q : Nat} (h : w_ob q 0) : w_ob (q + 3) 1 := w_O (f := fun q => q + 3) (by decide +kernel) h
theorem wk_4_0 : w_fd 4 10 0 = some (5 + 1 + 3) := by decide +kernel
theorem wc_5 : w_tab[5]? = some (50, 4, []) := by decide +kernel
theorem wk_11_6 : w_fd 11 9 6 = some 0 := by decide +kernel
theorem wk_11_3 : w_fd 11 9 3 = some (15 + 1 + 3) := by decide +kernel
theorem wc_15 : w_tab[15]? = some (50, 16, []) := by decide +kernel
theorem wk_11_7 : w_fd 11 9 7 = some 0 := by decide +kernel
theorem wk_11_2 : w_fd 11 9 2 = some (14 + 1 + 3) := by decide +kernel
theorem wc_14 : w_tab[14]? = some (50, 16, []) := by decide +kernel
theorem wk_11_5 : w_fd 11 9 5 = some 0 := by decide +kernel
theorem wk_11_4 : w_fd 11 9 4 = some (16 + 1 + 3) := by decide +kernel
theorem wc_16 : w_tab[16]? = some (50, 16, []) := by decide +kernel
theorem wk_4_1 : w_fd 4 10 1 = some (6 + 1 + 3) := by decide +kernel
theorem wc_6 : w_tab[6]? = some (50, 4, []) := by decide +kernel
theorem wk_4_2 : w_fd 4 10 2 = some (7 + 1 + 3) := by decide +kernel
theorem wc_7 : w_tab[7]? = some (50, 4, []) := by decide +kernel
theorem wk_4_5 : w_fd 4 10 5 = some (10 + 1 + 3) := by decide +kernel
theorem wc_10 : w_tab[10]? = some (50, 4, []) := by decide +kernel
theorem wk_4_4 : w_fd 4 10 4 = some (9 + 1 + 3) := by decide +kernel
theorem wc_9 : w_tab[9]? = some (50, 4, []) := by decide +kernel
theorem wk_4_6 : w_fd 4 10 6 = some 0 := by decide +kernel
theorem wc_0 : w_ob 0 11 := ⟨18, [5, 6, 7, 8, 15, 21, 28, 32, 44, 49, 0, 0, 0, 0, 0, 0, 0, 0], by decide +kernel⟩
theorem wk_0_0 : w_fd 0 11 0 = some (1 + 1 + 3) := by decide +kernel
theorem wc_1 : w_ob 1 60 := ⟨2, [52, 54], by decide +kernel⟩
def wef_60 : Nat → Nat → Nat := fun _ b => 2 * b + 48
theorem we_60 : w_every (w_pE 60 2 7 wef_60) 0 w_tab = true := by decide +kernel
theorem wk_0_5 : w_fd 0 11 5 = some (17 + 1 + 3) := by decide +kernel
theorem wk_0_6 : w_fd 0 11 6 = some (24 + 1 + 3) := by decide +kernel
theorem wk_0_4 : w_fd 0 11 4 = some (11 + 1 + 3) := by decide +kernel
theorem wk_0_1 : w_fd 0 11 1 = some (2 + 1 + 3) := by decide +kernel
theorem wk_0_10 : w_fd 0 11 10 = some 0 := by decide +kernel
theorem wk_0_3 : w_fd 0 11 3 = some (4 + 1 + 3) := by decide +kernel
theorem wk_0_17 : w_fd 0 11 17 = some 0 := by decide +kernel
theorem wk_0_2 : w_fd 0 11 2 = some (3 + 1 + 3) := by decide +kernel
theorem wc_3 : w_tab[3]? = some (50, 16, []) := by decide +kernel
theorem wf_0_11 {q : Nat} (h : w_ob q 0) : w_fd q 0 11 = some 0 := w_F (f := fun _ => 0) (by decide +kernel) h
theorem wk_0_15 : w_fd 0 11 15 = some 0 := by decide +kernel
theorem wf_0_16 {q : Nat} (h : w_ob q 0) : w_fd q 0 16 = some 0 := w_F (f := fun _ => 0) (by decide +kernel) h
theorem wf_0_5 {q : Nat} (h : w_ob q 0) : w_fd q 0 5 = some (q + 17 + 1 + 3) := w_F (f := fun q => q + 17 + 1 + 3) (by decide +kernel) h
theorem wo_0_5 {q : Nat} (h : w_ob q 0) : w_ob (q + 17) 3 := w_O (f := fun q => q + 17) (by decide +kernel) h
theorem wk_0_9 : w_fd 0 11 9 = some (45 + 1 + 3) := by decide +kernel
theorem wc_45 : w_ob 45 8 := ⟨2, [50, 51], by decide +kernel⟩
theorem wf_0_3 {q : Nat} (h : w_ob q 0) : w_fd q 0 3 = some (q + 10 + 1 + 3) := w_F (f := fun q => q + 10 + 1 + 3) (by decide +kernel) h
theorem wo_0_3 {q : Nat} (h : w_ob q 0) : w_ob (q + 10) 8 := w_O (f := fun q => q + 10) (by decide +kernel) h
theorem wk_0_8 : w_fd 0 11 8 = some (40 + 1 + 3) := by decide +kernel
theorem wf_0_4 {q : Nat} (h : w_ob q 0) : w_fd q 0 4 = some (q + 13 + 1 + 3) := w_F (f := fun q => q + 13 + 1 + 3) (by decide +kernel) h
theorem wo_0_4 {q : Nat} (h : w_ob q 0) : w_ob (q + 13) 2 := w_O (f := fun q => q + 13) (by decide +kernel) h
theorem wk_0_7 : w_fd 0 11 7 = some (28 + 1 + 3) := by decide +kernel
theorem wf_0_12 {q : Nat} (h : w_ob q 0) : w_fd q 0 12 = some 0 := w_F (f := fun _ => 0) (by decide +kernel) h
theorem wk_0_12 : w_fd 0 11 12 = some 0 := by decide +kernel
theorem wk_0_14 : w_fd 0 11 14 = some 0 := by decide +kernel
theorem wk_0_13 : w_fd 0 11 13 = some 0 := by decide +kernel
theorem wk_0_11 : w_fd 0 11 11 = some 0 := by decide +kernel
theorem wf_0_10 {q : Nat} (h : w_ob q 0) : w_fd q 0 10 = some 0 := w_F (f := fun _ => 0) (by decide +kernel) h
theorem wk_0_16 : w_fd 0 11 16 = some 0 := by decide +kernel
theorem wc_1076 : w_ob 1076 12 := ⟨81, [1081, 1082, 0, 1083, 1084, 1085, 1086, 1087, 1088, 1089, 1090, 1091, 1092, 1093, 1094, 1095, 1096, 1097, 1098, 0, 0, 0, 0, 1099, 1100, 1101, 1102, 1103, 0, 0, 0, 0, 0, 1104, 1105, 1106, 1107, 1108, 1109, 1110, 1111, 1112, 1113, 1114, 1115, 0, 0, 0, 0, 1116, 1117, 1118, 1119, 1120, 1121, 1122, 1123, 1124, 1125, 1126, 1127, 1128, 1129, 1130, 0, 1131, 0, 0, 1132, 1133, 0, 1134, 0, 1135, 0, 0, 0, 0, 1136, 0, 0], by decide +kernel⟩
theorem wk_1076_79 : w_fd 1076 12 79 = some 0 := by decide +kernel
theorem wk_1076_67 : w_fd 1076 12 67 = some 0 := by decide +kernel
theorem wk_1076_66 : w_fd 1076 12 66 = some 0 := by decide +kernel
theorem wk_1076_65 : w_fd 1076 12 65 = some (1127 + 1 + 3) := by decide +kernel
theorem wc_1127 : w_tab[1127]? = some (50, 40, []) := by decide +kernel
theorem wk_1076_70 : w_fd 1076 12 70 = some 0 := by decide +kernel
theorem wk_1076_68 : w_fd 1076 12 68 = some (1128 + 1 + 3) := by decide +kernel
theorem wc_1128 : w_tab[1128]? = some (50, 80, []) := by decide +kernel
theorem wk_1076_69 : w_fd 1076 12 69 = some (1129 + 1 + 3) := by decide +kernel
theorem wc_1129 : w_tab[1129]? = some (50, 80, []) := by decide +kernel
theorem wk_1076_1 : w_fd 1076 12 1 = some (1078 + 1 + 3) := by decide +kernel
theorem wc_1078 : w_tab[1078]? = some (50, 2, []) := by decide +kernel
theorem wk_1076_0 : w_fd 1076 12 0 = some (1077 + 1 + 3) := by decide +kernel
theorem wc_1077 : w_tab[1077]? = some (50, 80, []) := by decide +kernel
theorem wk_1076_4 : w_fd 1076 12 4 = some (1080 + 1 + 3) := by decide +kernel
theorem wc_1080 : w_tab[1080]? = some (50, 16, []) := by decide +kernel
theorem wk_1076_3 : w_fd 1076 12 3 = some (1079 + 1 + 3) := by decide +kernel
theorem wc_1079 : w_tab[1079]? = some (50, 640, []) := by decide +kernel
theorem wk_1076_7 : w_fd 1076 12 7 = some (1083 + 1 + 3) := by decide +kernel
theorem wc_1083 : w_tab[1083]? = some (50, 16, []) := by decide +kernel
theorem wk_1076_9 : w_fd 1076 12 9 = some (1085 + 1 + 3) := by decide +kernel
theorem wc_1085 : w_tab[1085]? = some (50, 16, []) := by decide +kernel
theorem wk_1076_8 : w_fd 1076 12 8 = some (1084 + 1 + 3) := by decide +kernel
theorem wc_1084 : w_tab[1084]? = some (50, 16, []) := by decide +kernel
theorem wk_1076_10 : w_fd 1076 12 10 = some (1086 + 1 + 3) := by decide +kernel
theorem wc_1086 : w_tab[1086]? = some (52, 16, []) := by decide +kernel
theorem wk_1076_5 : w_fd 1076 12 5 = some (1081 + 1 + 3) := by decide +kernel
theorem wc_1081 : w_tab[1081]? = some (50, 16, []) := by decide +kernel
theorem wk_1076_48 : w_fd 1076 12 48 = some 0 := by decide +kernel
theorem wk_1076_49 : w_fd 1076 12 49 = some (1112 + 1 + 3) := by decide +kernel
theorem wc_1112 : w_tab[1112]? = some (50, 4, []) := by decide +kernel
theorem wk_1076_2 : w_fd 1076 12 2 = some 0 := by decide +kernel
theorem wk_1076_57 : w_fd 1076 12 57 = some (1120 + 1 + 3) := by decide +kernel
theorem wc_1120 : w_tab[1120]? = some (50, 16, []) := by decide +kernel
theorem wk_1076_58 : w_fd 1076 12 58 = some (1121 + 1 + 3) := by decide +kernel
theorem wc_1121 : w_tab[1121]? = some (50, 16, []) := by decide +kernel
theorem wk_1076_11 : w_fd 1076 12 11 = some (1087 + 1 + 3) := by decide +kernel
theorem wc_1087 : w_tab[1087]? = some (50, 16, []) := by decide +kernel
theorem wk_1076_13 : w_fd 1076 12 13 = some (1089 + 1 + 3) := by decide +kernel
theorem wc_1089 : w_tab[1089]? = some (50, 16, []) := by decide +kernel
theorem wk_1076_6 : w_fd 1076 12 6 = some (1082 + 1 + 3) := by decide +kernel
theorem wc_1082 : w_tab[1082]? = some (50, 16, []) := by decide +kernel
theorem wk_1076_14 : w_fd 1076 12 14 = some (1090 + 1 + 3) := by decide +kernel
theorem wc_1090 : w_tab[1090]? = some (50, 16, []) := by decide +kernel
theorem wk_1076_12 : w_fd 1076 12 12 = some (1088 + 1 + 3) := by decide +kernel
theorem wc_1088 : w_tab[1088]? = some (50, 16, []) := by decide +kernel
theorem wk_1076_15 : w_fd 1076 12 15 = some (1091 + 1 + 3) := by decide +kernel
theorem wc_1091 : w_tab[1091]? = some (50, 64, []) := by decide +kernel
theorem wk_1076_52 : w_fd 1076 12 52 = some (1115 + 1 + 3) := by decide +kernel
theorem wc_1115 : w_tab[1115]? = some (50, 4, []) := by decide +kernel
theorem wk_1076_59 : w_fd 1076 12 59 = some (1122 + 1 + 3) := by decide +kernel
theorem wc_1122 : w_tab[1122]? = some (50, 16, []) := by decide +kernel
theorem wk_1076_19 : w_fd 1076 12 19 = some 0 := by decide +kernel
theorem wk_1076_45 : w_fd 1076 12 45 = some 0 := by decide +kernel
theorem wk_1076_78 : w_fd 1076 12 78 = some (1132 + 1 + 3) := by decide +kernel
theorem wc_1132 : w_tab[1132]? = some (50, 9, []) := by decide +kernel
theorem wk_1076_29 : w_fd 1076 12 29 = some 0 := by decide +kernel
theorem wk_1076_60 : w_fd 1076 12 60 = some (1123 + 1 + 3) := by decide +kernel
theorem wc_1123 : w_tab[1123]? = some (50, 3744, []) := by decide +kernel
theorem wk_1076_17 : w_fd 1076 12 17 = some (1093 + 1 + 3) := by decide +kernel
theorem wc_1093 : w_tab[1093]? = some (50, 3744, []) := by decide +kernel
theorem wk_1076_33 : w_fd 1076 12 33 = some (1100 + 1 + 3) := by decide +kernel
theorem wc_1100 : w_tab[1100]? = some (50, 16, []) := by decide +kernel
theorem wk_1076_34 : w_fd 1076 12 34 = some (1101 + 1 + 3) := by decide +kernel
theorem wc_1101 : w_tab[1101]? = some (50, 2560, []) := by decide +kernel
theorem wk_1076_35 : w_fd 1076 12 35 = some (1102 + 1 + 3) := by decide +kernel
theorem wc_1102 : w_tab[1102]? = some (50, 64, []) := by decide +kernel
theorem wk_1076_36 : w_fd 1076 12 36 = some (1103 + 1 + 3) := by decide +kernel
theorem wc_1103 : w_tab[1103]? = some (50, 14976, []) := by decide +kernel
theorem wk_1076_75 : w_fd 1076 12 75 = some 0 := by decide +kernel
theorem wk_1076_76 : w_fd 1076 12 76 = some 0 := by decide +kernel
theorem wk_1076_71 : w_fd 1076 12 71 = some (1130 + 1 + 3) := by decide +kernel
theorem wc_1130 : w_tab[1130]? = some (50, 400, []) := by decide +kernel
theorem wk_1076_72 : w_fd 1076 12 72 = some 0 := by decide +kernel
theorem wk_1076_80 : w_fd 1076 12 80 = some 0 := by decide +kernel
theorem wk_1076_74 : w_fd 1076 12 74 = some 0 := by decide +kernel
theorem wk_1076_77 : w_fd 1076 12 77 = some 0 := by decide +kernel
theorem wk_1076_73 : w_fd 1076 12 73 = some (1131 + 1 + 3) := by decide +kernel
theorem wc_1131 : w_tab[1131]? = some (50, 234, []) := by decide +kernel
theorem wk_1076_30 : w_fd 1076 12 30 = some 0 := by decide +kernel
theorem wk_1076_28 : w_fd 1076 12 28 = some 0 := by decide +kernel
theorem wk_1076_23 : w_fd 1076 12 23 = some (1095 + 1 + 3) := by decide +kernel
theorem wc_1095 : w_tab[1095]? = some (50, 640, []) := by decide +kernel
theorem wk_1076_31 : w_fd 1076 12 31 = some 0 := by decide +kernel
theorem wk_1076_32 : w_fd 1076 12 32 = some 0 := by decide +kernel
theorem wk_1076_27 : w_fd 1076 12 27 = some (1099 + 1 + 3) := by decide +kernel
theorem wc_1099 : w_tab[1099]? = some (50, 40, []) := by decide +kernel
theorem wk_1076_25 : w_fd 1076 12 25 = some (1097 + 1 + 3) := by decide +kernel
theorem wc_1097 : w_tab[1097]? = some (50, 640, []) := by decide +kernel
theorem wk_1076_26 : w_fd 1076 12 26 = some (1098 + 1 + 3) := by decide +kernel
theorem wc_1098 : w_tab[1098]? = some (50, 16, []) := by decide +kernel
theorem wk_1076_24 : w_fd 1076 12 24 = some (1096 + 1 + 3) := by decide +kernel
theorem wc_1096 : w_tab[1096]? = some (50, 16, []) := by decide +kernel
theorem wk_1076_37 : w_fd 1076 12 37 = some (1104 + 1 + 3) := by decide +kernel
theorem wc_1104 : w_tab[1104]? = some (50, 14976, []) := by decide +kernel
theorem wk_1076_38 : w_fd 1076 12 38 = some (1105 + 1 + 3) := by decide +kernel
theorem wc_1105 : w_tab[1105]? = some (50, 576, []) := by decide +kernel
theorem wk_1076_18 : w_fd 1076 12 18 = some (1094 + 1 + 3) := by decide +kernel
theorem wc_1094 : w_tab[1094]? = some (50, 144, []) := by decide +kernel
theorem wk_1076_16 : w_fd 1076 12 16 = some (1092 + 1 + 3) := by decide +kernel
theorem wc_1092 : w_tab[1092]? = some (50, 16, []) := by decide +kernel
theorem wk_1076_20 : w_fd 1076 12 20 = some 0 := by decide +kernel
theorem wk_1076_21 : w_fd 1076 12 21 = some 0 := by decide +kernel
theorem wk_1076_22 : w_fd 1076 12 22 = some 0 := by decide +kernel
theorem wk_1076_50 : w_fd 1076 12 50 = some (1113 + 1 + 3) := by decide +kernel
theorem wc_1113 : w_tab[1113]? = some (50, 4, []) := by decide +kernel
theorem wk_1076_51 : w_fd 1076 12 51 = some (1114 + 1 + 3) := by decide +kernel
theorem wc_1114 : w_tab[1114]? = some (50, 4, []) := by decide +kernel
theorem wk_1076_55 : w_fd 1076 12 55 = some (1118 + 1 + 3) := by decide +kernel
theorem wc_1118 : w_tab[1118]? = some (52, 16, []) := by decide +kernel
theorem wk_1076_53 : w_fd 1076 12 53 = some (1116 + 1 + 3) := by decide +kernel
theorem wc_1116 : w_tab[1116]? = some (50, 4, []) := by decide +kernel
theorem wk_1076_54 : w_fd 1076 12 54 = some (1117 + 1 + 3) := by decide +kernel
theorem wc_1117 : w_tab[1117]? = some (52, 4, []) := by decide +kernel
theorem wk_1076_56 : w_fd 1076 12 56 = some (1119 + 1 + 3) := by decide +kernel
theorem wc_1119 : w_tab[1119]? = some (52, 4, []) := by decide +kernel
theorem wk_1076_39 : w_fd 1076 12 39 = some (1106 + 1 + 3) := by decide +kernel
theorem wc_1106 : w_tab[1106]? = some (52, 16, []) := by decide +kernel
theorem wk_1076_40 : w_fd 1076 12 40 = some (1107 + 1 + 3) := by decide +kernel
theorem wc_1107 : w_tab[1107]? = some (50, 640, []) := by decide +kernel
theorem wk_1076_41 : w_fd 1076 12 41 = some (1108 + 1 + 3) := by decide +kernel
theorem wc_1108 : w_tab[1108]? = some (50, 16, []) := by decide +kernel
theorem wk_1076_42 : w_fd 1076 12 42 = some (1109 + 1 + 3) := by decide +kernel
theorem wc_1109 : w_tab[1109]? = some (50, 3744, []) := by decide +kernel
theorem wk_1076_43 : w_fd 1076 12 43 = some (1110 + 1 + 3) := by decide +kernel
theorem wc_1110 : w_tab[1110]? = some (50, 3744, []) := by decide +kernel
theorem wk_1076_44 : w_fd 1076 12 44 = some (1111 + 1 + 3) := by decide +kernel
theorem wc_1111 : w_tab[1111]? = some (50, 144, []) := by decide +kernel
theorem wk_1076_46 : w_fd 1076 12 46 = some 0 := by decide +kernel
theorem wk_1076_47 : w_fd 1076 12 47 = some 0 := by decide +kernel
theorem wk_1076_64 : w_fd 1076 12 64 = some 0 := by decide +kernel
theorem wk_1076_63 : w_fd 1076 12 63 = some (1126 + 1 + 3) := by decide +kernel
theorem wc_1126 : w_tab[1126]? = some (50, 16, []) := by decide +kernel
theorem wk_1076_62 : w_fd 1076 12 62 = some (1125 + 1 + 3) := by decide +kernel
theorem wc_1125 : w_tab[1125]? = some (52, 16, []) := by decide +kernel
theorem wk_1076_61 : w_fd 1076 12 61 = some (1124 + 1 + 3) := by decide +kernel
theorem wc_1124 : w_tab[1124]? = some (50, 144, []) := by decide +kernel
