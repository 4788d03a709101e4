/-! ===== THE CHECK of one instruction: what it says is what the bytes and the tables say ===== -/
def j_pc (cd : List jI) (i : Nat) : Nat := match cd[i]? with
  | some (_, pc, _) => pc
  | none => 0
def j_dc (cc : ByteArray) (pc : Nat) (x : Instr) (l : Nat) : Bool := decide (decode cc pc = .ok (x, l))
def j_cal (o cp a b c : Nat) (nest : Bool) (kind : Nat) (hs : List (Nat × Nat × Nat × Nat × Nat)) (free : Bool) : Bool :=
  (j_ml o).elem (cp, a, nest) && jCall.elem a && decide ((j_d a).2.2.2.2.2.1 = kind) && decide (b = (j_d a).2.2.2.2.2.2.1 + (if kind = 0 then 0 else 1)) && decide (kind = 0 ∨ ((j_d a).1 = c ∧ c < 13)) && (free || hs.isEmpty) && (jP[a]?.isSome)
def j_swok (cc : ByteArray) (cd : List jI) (sw : List Nat) (pc b : Nat) : Bool := match decode cc pc with
  | .ok (.tableswitch d 0 hi offs, _) => decide (hi + 1 = (offs.size : Int)) && decide ((pc : Int) + d = (j_pc cd b : Int)) && decide (offs.toList = sw.map (fun t => (j_pc cd t : Int) - (pc : Int)))
  | _ => false
def j_chk (o : Nat) (cc : ByteArray) (cd : List jI) (sw : List Nat) (hs : List (Nat × Nat × Nat × Nat × Nat)) (ini : Bool) (ret : Option FieldType) (i cp : Nat) : Bool :=
  match cd[i]? with
  | none => false
  | some (op, pc, a, b, c) =>
    let n := j_pc cd (i + 1)
    let off : Int := (j_pc cd b : Int) - (pc : Int)
    match op with
    | 0 => match c with
      | 0 => j_dc cc pc (.iconst (Int32.ofNat a).toInt) 1 && n == pc + 1
      | 1 => j_dc cc pc (.bipush (Int32.ofNat a).toInt) 2 && decide ((Int8.ofInt (Int32.ofNat a).toInt).toInt32 = Int32.ofNat a) && n == pc + 2
      | 2 => j_dc cc pc (.sipush (Int32.ofNat a).toInt) 3 && decide ((Int16.ofInt (Int32.ofNat a).toInt).toInt32 = Int32.ofNat a) && n == pc + 3
      | 3 => j_dc cc pc (.ldc cp) 2 && (j_cst o).elem (cp, a) && n == pc + 2
      | _ => j_dc cc pc (.ldc_w cp) 3 && (j_cst o).elem (cp, a) && n == pc + 3
    | 1 => if c = 0 then j_dc cc pc (.iload_n (Fin.ofNat 4 a)) 1 && decide (a < 4) && n == pc + 1 else j_dc cc pc (.iload a) 2 && n == pc + 2
    | 2 => if c = 0 then j_dc cc pc (.aload_n (Fin.ofNat 4 a)) 1 && decide (a < 4) && n == pc + 1 else j_dc cc pc (.aload a) 2 && n == pc + 2
    | 3 => if c = 0 then j_dc cc pc (.istore_n (Fin.ofNat 4 a)) 1 && decide (a < 4) && n == pc + 1 else j_dc cc pc (.istore a) 2 && n == pc + 2
    | 4 => if c = 0 then j_dc cc pc (.astore_n (Fin.ofNat 4 a)) 1 && decide (a < 4) && n == pc + 1 else j_dc cc pc (.astore a) 2 && n == pc + 2
    | 5 => j_dc cc pc (.iinc a (Int32.ofNat b).toInt) 3 && n == pc + 3
    | 6 => j_dc cc pc (j_bi a) 1 && n == pc + 1
    | 7 => (if a = 0 then j_dc cc pc .ineg 1 else j_dc cc pc .i2c 1) && n == pc + 1
    | 8 => j_dc cc pc (.ifCond (j_cd a) off) 3 && n == pc + 3
    | 9 => j_dc cc pc (.if_icmp (j_cd a) off) 3 && n == pc + 3
    | 10 => j_dc cc pc (.goto off) 3
    | 11 => j_dc cc pc (.ifnull off) 3 && n == pc + 3
    | 12 => j_dc cc pc (.ifnonnull off) 3 && n == pc + 3
    | 13 => j_dc cc pc .dup 1 && n == pc + 1
    | 14 => j_dc cc pc .pop 1 && n == pc + 1
    | 15 => j_dc cc pc .dup2 1 && n == pc + 1
    | 16 => j_dc cc pc (.getfield cp) 3 && n == pc + 3 && decide (a < 13) && decide (b < j_N a) && ((j_fl o).elem (cp, a, b, false) || (j_fl o).elem (cp, a, b, true))
    | 17 => j_dc cc pc (.putfield cp) 3 && n == pc + 3 && decide (a < 13) && decide (b < j_N a) && ((j_fl o).elem (cp, a, b, false) || (j_fl o).elem (cp, a, b, true)) && !(j_T a b).2.2.2
    | 18 => j_dc cc pc (.putfield cp) 3 && n == pc + 3 && decide (a < 13) && decide (b < j_N a) && (j_fl o).elem (cp, a, b, false) && (j_T a b).2.2.2 && ini && decide (a = o) && decide ((j_T a b).1 = j_own o)
    | 19 => j_dc cc pc (.new cp) 3 && n == pc + 3 && decide (a < 13) && (j_clk o).elem (cp, a)
    | 20 => j_dc cc pc (.newarray (j_at8 a)) 2 && n == pc + 2 && decide (a = 50 ∨ a = 51 ∨ a = 52 ∨ a = 53)
    | 21 => j_dc cc pc (.anewarray cp) 3 && n == pc + 3 && decide (a = 60 ∨ a = 61 ∨ a = 62) && (j_clk o).elem (cp, j_comp a)
    | 22 => j_dc cc pc (j_ald a) 1 && n == pc + 1 && decide (a = 50 ∨ a = 51 ∨ a = 52)
    | 23 => j_dc cc pc (j_ast a) 1 && n == pc + 1 && decide (a = 50 ∨ a = 51 ∨ a = 52)
    | 24 => j_dc cc pc .aaload 1 && n == pc + 1 && decide (a = 60 ∨ a = 61 ∨ a = 62)
    | 25 => j_dc cc pc .aastore 1 && n == pc + 1 && decide (a = 60 ∨ a = 61 ∨ a = 62)
    | 26 => j_dc cc pc .arraylength 1 && n == pc + 1
    | 27 => j_dc cc pc (.invokevirtual cp) 3 && n == pc + 3 && j_cal o cp a b c false 1 hs true && (j_d a).2.2.2.2.2.2.2.isEmpty && hs.all (fun r => decide (r.1 ≤ i ∧ i < r.2.1 ∧ j_pc cd r.1 ≤ pc ∧ pc < j_pc cd r.2.1))
    | 28 => j_dc cc pc (.invokevirtual cp) 3 && n == pc + 3 && j_cal o cp a b c true 1 hs false && (j_d a).2.2.2.2.2.2.2.isEmpty
    | 29 => j_dc cc pc (.invokestatic cp) 3 && n == pc + 3 && j_cal o cp a b c false 0 hs false && (j_d a).2.2.2.2.2.2.2.isEmpty
    | 30 => j_dc cc pc (.invokestatic cp) 3 && n == pc + 3 && j_cal o cp a b c true 0 hs false && (j_d a).2.2.2.2.2.2.2.isEmpty
    | 31 => j_dc cc pc (.invokespecial cp) 3 && n == pc + 3 && j_cal o cp a b c false 2 hs false && (j_d a).2.2.2.2.2.2.2.isEmpty
    | 32 => j_dc cc pc (.invokespecial cp) 3 && n == pc + 3 && j_cal o cp a b c true 2 hs false && (j_d a).2.2.2.2.2.2.2.isEmpty
    | 33 => j_dc cc pc .return_ 1 && decide (ret = none)
    | 34 => j_dc cc pc .ireturn 1 && decide (ret = if a = 0 then some .int else some .boolean)
    | 35 => j_dc cc pc .areturn 1 && (match ret with | some (.object _) => true | some (.array _) => true | _ => false)
    | 36 => j_dc cc pc (.new b) 3 && j_dc cc (pc + 3) .dup 1 && j_dc cc (pc + 4) (.invokespecial c) 3 && j_dc cc (pc + 7) .athrow 1 && hs.isEmpty && (j_xl o).elem (a, b, c) && decide (o = 11)
    | 37 => j_swok cc cd sw pc b
    | 38 => j_dc cc pc (.lconst (Fin.ofNat 2 a)) 1 && decide (a < 2) && n == pc + 1
    | 39 => j_dc cc pc .i2l 1 && n == pc + 1
    | 40 => j_dc cc pc .laload 1 && n == pc + 1
    | 41 => j_dc cc pc .lastore 1 && n == pc + 1
    | 42 => j_dc cc pc .lcmp 1 && n == pc + 1
    | 43 => j_dc cc pc .aconst_null 1 && n == pc + 1
    | 44 => j_dc cc pc (.invokespecial cp) 3 && n == pc + 3 && (j_ol o).elem (0, cp)
    | 45 => j_dc cc pc (.invokestatic cp) 3 && n == pc + 3 && (j_ol o).elem (1, cp)
    | 46 => j_dc cc pc (.invokestatic cp) 3 && n == pc + 3 && (j_ol o).elem (2, cp)
    | 47 => j_dc cc pc (.invokestatic cp) 3 && n == pc + 3 && (j_ol o).elem (3, cp)
    | 48 => j_dc cc pc .iaload 1 && n == pc + 1
    | 49 => j_dc cc pc (.invokestatic cp) 3 && n == pc + 3 && j_cal o cp a b c false 0 hs false && !(j_d a).2.2.2.2.2.2.2.isEmpty
    | _ => false
/-- a whole method -/
def j_chks (o : Nat) (cc : ByteArray) (cd : List jI) (sw : List Nat) (hs : List (Nat × Nat × Nat × Nat × Nat)) (ini : Bool) (ret : Option FieldType) (cps : List Nat) : Bool :=
  (List.range cd.length).all (fun i => j_chk o cc cd sw hs ini ret i (cps.getD i 0))
/-- the table of a method with handlers -/
def j_tab (o : Nat) (cc : ByteArray) (cd : List jI) : List (Nat × Nat × Nat × Nat × Nat) → List (Nat × Nat × Nat × Nat) → Bool
  | [], [] => true
  | (lo, hi, h, x, e) :: hs, (f, t, g, ct) :: tab => decide (f = j_pc cd lo) && decide (t = j_pc cd hi) && decide (x < 3) && decide (ct ≠ 0) && (j_el o).elem (ct, x) && (decide (j_dc cc g (.astore_n (Fin.ofNat 4 e)) 1 = true ∧ e < 4 ∧ j_pc cd h = g + 1) || decide (j_dc cc g (.astore e) 2 = true ∧ j_pc cd h = g + 2)) && j_tab o cc cd hs tab
  | _, _ => false
/-- a method's data: its code, its table, its name -/
def j_mok (k : Nat) (cps : List Nat) : Bool :=
  let d := j_d k
  match jP[k]? with
  | none => false
  | some mt => j_chks d.1 d.2.2.1 mt.1 mt.2.2.2 mt.2.2.1 (d.2.2.2.2.2.1 == 2) d.2.2.2.2.1 cps && decide (mt.2.1 = d.2.2.2.1) && decide (d.2.1.cls = j_own d.1) && plainName d.2.1.cls && decide (d.2.1.cls ≠ "java/lang/invoke/MethodHandle" ∧ d.2.1.cls ≠ "java/lang/invoke/VarHandle") && decide ((parseMethodDescriptor d.2.1.desc).map (fun q => q.parameters.length) = some d.2.2.2.2.2.2.1) && decide (d.2.2.2.2.2.2.1 + 1 ≤ 20) && decide (d.2.2.2.2.2.2.1 + (if d.2.2.2.2.2.1 = 0 then 0 else 1) ≤ d.2.2.2.1) && decide (d.2.2.2.1 ≤ 40) && decide (d.2.2.2.2.2.1 = 2 → d.2.1.name = "<init>" ∧ d.2.2.2.2.1 = none) && decide (d.1 ≤ 14) && j_tab d.1 d.2.2.1 mt.1 mt.2.2.1 d.2.2.2.2.2.2.2 && decide (mt.1[0]?.map (fun q => q.2.1) = some 0) && mt.2.2.1.all (fun r => decide (r.2.2.2.2 < mt.2.1))
