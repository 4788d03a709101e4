/-! ===== the classes, by their numbers: names, fields, what the tables say of them (printed by wip/whole/gen07.py) ===== -/
def j_R (t : Nat) : String := match t with
  | 0 => RX0 | 1 => RX1 | 2 => RX2 | 3 => RX3 | 4 => RX4 | 5 => RX5 | 6 => RX6 | 7 => RX7 | 8 => RX8 | 9 => RX9 | 10 => RX10 | 11 => RX11 | _ => RX12
def j_T (t : Nat) : u_T := match t with
  | 0 => TX0 | 1 => TX1 | 2 => TX2 | 3 => TX3 | 4 => TX4 | 5 => TX5 | 6 => TX6 | 7 => TX7 | 8 => TX8 | 9 => TX9 | 10 => TX10 | 11 => TX11 | _ => TX12
theorem j_13 {P : Nat → Prop} (h0 : P 0) (h1 : P 1) (h2 : P 2) (h3 : P 3) (h4 : P 4) (h5 : P 5) (h6 : P 6) (h7 : P 7) (h8 : P 8) (h9 : P 9) (h10 : P 10) (h11 : P 11) (h12 : P 12) (t : Nat) (ht : t < 13) : P t := by
  match t, ht with
  | 0, _ => exact h0
  | 1, _ => exact h1
  | 2, _ => exact h2
  | 3, _ => exact h3
  | 4, _ => exact h4
  | 5, _ => exact h5
  | 6, _ => exact h6
  | 7, _ => exact h7
  | 8, _ => exact h8
  | 9, _ => exact h9
  | 10, _ => exact h10
  | 11, _ => exact h11
  | 12, _ => exact h12
theorem j_cl (t : Nat) (ht : t < 13) : vwCl[t]? = some (j_R t, j_T t, j_N t) := j_13 (P := fun t => vwCl[t]? = some (j_R t, j_T t, j_N t)) rfl rfl rfl rfl rfl rfl rfl rfl rfl rfl rfl rfl rfl t ht
set_option maxRecDepth 100000 in
theorem j_lay0 : ∀ w ∈ u_ws RX0 TX0 17, w ∈ lw_tbl := by
  have h : u_ws RX0 TX0 17 = ([468, 470, 472, 474, 476, 478, 480, 482, 484, 486, 488, 490, 492, 494, 496, 498, 500] : List Nat).filterMap (fun i => lw_tbl[i]?) := by rfl
  intro w hw
  rw [h] at hw
  obtain ⟨i, -, hi⟩ := List.mem_filterMap.mp hw
  exact List.mem_of_getElem? hi
theorem j_layg0 : (u_ws RX0 TX0 17).all j_good = true := by decide +kernel
set_option maxRecDepth 100000 in
theorem j_lay1 : ∀ w ∈ u_ws RX1 TX1 8, w ∈ lw_tbl := by
  have h : u_ws RX1 TX1 8 = ([285, 287, 289, 291, 293, 295, 297, 299] : List Nat).filterMap (fun i => lw_tbl[i]?) := by rfl
  intro w hw
  rw [h] at hw
  obtain ⟨i, -, hi⟩ := List.mem_filterMap.mp hw
  exact List.mem_of_getElem? hi
theorem j_layg1 : (u_ws RX1 TX1 8).all j_good = true := by decide +kernel
set_option maxRecDepth 100000 in
theorem j_lay2 : ∀ w ∈ u_ws RX2 TX2 3, w ∈ lw_tbl := by
  have h : u_ws RX2 TX2 3 = ([358, 360, 362] : List Nat).filterMap (fun i => lw_tbl[i]?) := by rfl
  intro w hw
  rw [h] at hw
  obtain ⟨i, -, hi⟩ := List.mem_filterMap.mp hw
  exact List.mem_of_getElem? hi
theorem j_layg2 : (u_ws RX2 TX2 3).all j_good = true := by decide +kernel
set_option maxRecDepth 100000 in
theorem j_lay3 : ∀ w ∈ u_ws RX3 TX3 3, w ∈ lw_tbl := by
  have h : u_ws RX3 TX3 3 = ([434, 436, 438] : List Nat).filterMap (fun i => lw_tbl[i]?) := by rfl
  intro w hw
  rw [h] at hw
  obtain ⟨i, -, hi⟩ := List.mem_filterMap.mp hw
  exact List.mem_of_getElem? hi
theorem j_layg3 : (u_ws RX3 TX3 3).all j_good = true := by decide +kernel
set_option maxRecDepth 100000 in
theorem j_lay4 : ∀ w ∈ u_ws RX4 TX4 5, w ∈ lw_tbl := by
  have h : u_ws RX4 TX4 5 = ([391, 393, 395, 397, 399] : List Nat).filterMap (fun i => lw_tbl[i]?) := by rfl
  intro w hw
  rw [h] at hw
  obtain ⟨i, -, hi⟩ := List.mem_filterMap.mp hw
  exact List.mem_of_getElem? hi
theorem j_layg4 : (u_ws RX4 TX4 5).all j_good = true := by decide +kernel
set_option maxRecDepth 100000 in
theorem j_lay5 : ∀ w ∈ u_ws RX5 TX5 5, w ∈ lw_tbl := by
  have h : u_ws RX5 TX5 5 = ([307, 309, 311, 313, 315] : List Nat).filterMap (fun i => lw_tbl[i]?) := by rfl
  intro w hw
  rw [h] at hw
  obtain ⟨i, -, hi⟩ := List.mem_filterMap.mp hw
  exact List.mem_of_getElem? hi
theorem j_layg5 : (u_ws RX5 TX5 5).all j_good = true := by decide +kernel
set_option maxRecDepth 100000 in
theorem j_lay6 : ∀ w ∈ u_ws RX6 TX6 6, w ∈ lw_tbl := by
  have h : u_ws RX6 TX6 6 = ([372, 374, 376, 378, 380, 382] : List Nat).filterMap (fun i => lw_tbl[i]?) := by rfl
  intro w hw
  rw [h] at hw
  obtain ⟨i, -, hi⟩ := List.mem_filterMap.mp hw
  exact List.mem_of_getElem? hi
theorem j_layg6 : (u_ws RX6 TX6 6).all j_good = true := by decide +kernel
set_option maxRecDepth 100000 in
theorem j_lay7 : ∀ w ∈ u_ws RX7 TX7 2, w ∈ lw_tbl := by
  have h : u_ws RX7 TX7 2 = ([249, 251] : List Nat).filterMap (fun i => lw_tbl[i]?) := by rfl
  intro w hw
  rw [h] at hw
  obtain ⟨i, -, hi⟩ := List.mem_filterMap.mp hw
  exact List.mem_of_getElem? hi
theorem j_layg7 : (u_ws RX7 TX7 2).all j_good = true := by decide +kernel
set_option maxRecDepth 100000 in
theorem j_lay8 : ∀ w ∈ u_ws RX8 TX8 2, w ∈ lw_tbl := by
  have h : u_ws RX8 TX8 2 = ([334, 336] : List Nat).filterMap (fun i => lw_tbl[i]?) := by rfl
  intro w hw
  rw [h] at hw
  obtain ⟨i, -, hi⟩ := List.mem_filterMap.mp hw
  exact List.mem_of_getElem? hi
theorem j_layg8 : (u_ws RX8 TX8 2).all j_good = true := by decide +kernel
set_option maxRecDepth 100000 in
theorem j_lay9 : ∀ w ∈ u_ws RX9 TX9 9, w ∈ lw_tbl := by
  have h : u_ws RX9 TX9 9 = ([214, 216, 218, 220, 222, 224, 226, 228, 230] : List Nat).filterMap (fun i => lw_tbl[i]?) := by rfl
  intro w hw
  rw [h] at hw
  obtain ⟨i, -, hi⟩ := List.mem_filterMap.mp hw
  exact List.mem_of_getElem? hi
theorem j_layg9 : (u_ws RX9 TX9 9).all j_good = true := by decide +kernel
set_option maxRecDepth 100000 in
theorem j_lay10 : ∀ w ∈ u_ws RX10 TX10 8, w ∈ lw_tbl := by
  have h : u_ws RX10 TX10 8 = ([175, 177, 179, 181, 183, 185, 187, 189] : List Nat).filterMap (fun i => lw_tbl[i]?) := by rfl
  intro w hw
  rw [h] at hw
  obtain ⟨i, -, hi⟩ := List.mem_filterMap.mp hw
  exact List.mem_of_getElem? hi
theorem j_layg10 : (u_ws RX10 TX10 8).all j_good = true := by decide +kernel
set_option maxRecDepth 100000 in
theorem j_lay11 : ∀ w ∈ u_ws RX11 TX11 18, w ∈ lw_tbl := by
  have h : u_ws RX11 TX11 18 = ([521, 523, 525, 527, 529, 531, 533, 535, 537, 539, 541, 543, 545, 547, 549, 551, 553, 555] : List Nat).filterMap (fun i => lw_tbl[i]?) := by rfl
  intro w hw
  rw [h] at hw
  obtain ⟨i, -, hi⟩ := List.mem_filterMap.mp hw
  exact List.mem_of_getElem? hi
theorem j_layg11 : (u_ws RX11 TX11 18).all j_good = true := by decide +kernel
set_option maxRecDepth 100000 in
theorem j_lay12 : ∀ w ∈ u_ws RX12 TX12 81, w ∈ lw_tbl := by
  have h : u_ws RX12 TX12 81 = ([1369, 1371, 1373, 1375, 1377, 1379, 1381, 1383, 1385, 1387, 1389, 1391, 1393, 1395, 1397, 1399, 1401, 1403, 1405, 1407, 1409, 1411, 1413, 1415, 1417, 1419, 1421, 1423, 1425, 1427, 1429, 1431, 1433, 1435, 1437, 1439, 1441, 1443, 1445, 1447, 1449, 1451, 1453, 1455, 1457, 1459, 1461, 1463, 1465, 1467, 1469, 1471, 1473, 1475, 1477, 1479, 1481, 1483, 1485, 1487, 1489, 1491, 1493, 1495, 1497, 1499, 1501, 1503, 1505, 1507, 1509, 1511, 1513, 1515, 1517, 1519, 1521, 1523, 1525, 1527, 1529] : List Nat).filterMap (fun i => lw_tbl[i]?) := by rfl
  intro w hw
  rw [h] at hw
  obtain ⟨i, -, hi⟩ := List.mem_filterMap.mp hw
  exact List.mem_of_getElem? hi
theorem j_layg12 : (u_ws RX12 TX12 81).all j_good = true := by decide +kernel
theorem j_lay (t : Nat) (ht : t < 13) : ∀ w ∈ u_ws (j_R t) (j_T t) (j_N t), w ∈ j_W :=
  j_13 (P := fun t => ∀ w ∈ u_ws (j_R t) (j_T t) (j_N t), w ∈ j_W) (fun w hw => List.mem_filter.mpr ⟨j_lay0 w hw, List.all_eq_true.mp j_layg0 w hw⟩) (fun w hw => List.mem_filter.mpr ⟨j_lay1 w hw, List.all_eq_true.mp j_layg1 w hw⟩) (fun w hw => List.mem_filter.mpr ⟨j_lay2 w hw, List.all_eq_true.mp j_layg2 w hw⟩) (fun w hw => List.mem_filter.mpr ⟨j_lay3 w hw, List.all_eq_true.mp j_layg3 w hw⟩) (fun w hw => List.mem_filter.mpr ⟨j_lay4 w hw, List.all_eq_true.mp j_layg4 w hw⟩) (fun w hw => List.mem_filter.mpr ⟨j_lay5 w hw, List.all_eq_true.mp j_layg5 w hw⟩) (fun w hw => List.mem_filter.mpr ⟨j_lay6 w hw, List.all_eq_true.mp j_layg6 w hw⟩) (fun w hw => List.mem_filter.mpr ⟨j_lay7 w hw, List.all_eq_true.mp j_layg7 w hw⟩) (fun w hw => List.mem_filter.mpr ⟨j_lay8 w hw, List.all_eq_true.mp j_layg8 w hw⟩) (fun w hw => List.mem_filter.mpr ⟨j_lay9 w hw, List.all_eq_true.mp j_layg9 w hw⟩) (fun w hw => List.mem_filter.mpr ⟨j_lay10 w hw, List.all_eq_true.mp j_layg10 w hw⟩) (fun w hw => List.mem_filter.mpr ⟨j_lay11 w hw, List.all_eq_true.mp j_layg11 w hw⟩) (fun w hw => List.mem_filter.mpr ⟨j_lay12 w hw, List.all_eq_true.mp j_layg12 w hw⟩) t ht
theorem j_tyok (t : Nat) (ht : t < 13) : ∀ k, k < j_N t → parseFieldDescriptor (j_T t k).2.2.1 = some (j_fty t k) := j_13 (P := fun t => ∀ k, k < j_N t → parseFieldDescriptor (j_T t k).2.2.1 = some (j_fty t k)) tyX0_ok tyX1_ok tyX2_ok tyX3_ok tyX4_ok tyX5_ok tyX6_ok tyX7_ok tyX8_ok tyX9_ok tyX10_ok tyX11_ok tyX12_ok t ht
theorem j_nm (t : Nat) (ht : t < 13) : ∀ a, a < j_N t → ∀ b, b < j_N t → a ≠ b → (j_T t a).2.1 ≠ (j_T t b).2.1 := j_13 (P := fun t => ∀ a, a < j_N t → ∀ b, b < j_N t → a ≠ b → (j_T t a).2.1 ≠ (j_T t b).2.1) nmX0 nmX1 nmX2 nmX3 nmX4 nmX5 nmX6 nmX7 nmX8 nmX9 nmX10 nmX11 nmX12 t ht
set_option maxRecDepth 100000 in
theorem j_inst0 : Cond.instantiable RX0 17 ∈ lw_tbl := List.mem_of_getElem? (i := 407) rfl
set_option maxRecDepth 100000 in
theorem j_init0 : Cond.initialized RX0 ∈ lw_tbl := List.mem_of_getElem? (i := 134) rfl
set_option maxRecDepth 100000 in
theorem j_inst1 : Cond.instantiable RX1 8 ∈ lw_tbl := List.mem_of_getElem? (i := 256) rfl
set_option maxRecDepth 100000 in
theorem j_init1 : Cond.initialized RX1 ∈ lw_tbl := List.mem_of_getElem? (i := 129) rfl
set_option maxRecDepth 100000 in
theorem j_inst2 : Cond.instantiable RX2 3 ∈ lw_tbl := List.mem_of_getElem? (i := 346) rfl
set_option maxRecDepth 100000 in
theorem j_init2 : Cond.initialized RX2 ∈ lw_tbl := List.mem_of_getElem? (i := 133) rfl
set_option maxRecDepth 100000 in
theorem j_inst3 : Cond.instantiable RX3 3 ∈ lw_tbl := List.mem_of_getElem? (i := 421) rfl
set_option maxRecDepth 100000 in
theorem j_init3 : Cond.initialized RX3 ∈ lw_tbl := List.mem_of_getElem? (i := 135) rfl
set_option maxRecDepth 100000 in
theorem j_inst4 : Cond.instantiable RX4 5 ∈ lw_tbl := List.mem_of_getElem? (i := 321) rfl
set_option maxRecDepth 100000 in
theorem j_init4 : Cond.initialized RX4 ∈ lw_tbl := List.mem_of_getElem? (i := 130) rfl
set_option maxRecDepth 100000 in
theorem j_inst5 : Cond.instantiable RX5 5 ∈ lw_tbl := List.mem_of_getElem? (i := 234) rfl
set_option maxRecDepth 100000 in
theorem j_init5 : Cond.initialized RX5 ∈ lw_tbl := List.mem_of_getElem? (i := 127) rfl
set_option maxRecDepth 100000 in
theorem j_inst6 : Cond.instantiable RX6 6 ∈ lw_tbl := List.mem_of_getElem? (i := 340) rfl
set_option maxRecDepth 100000 in
theorem j_init6 : Cond.initialized RX6 ∈ lw_tbl := List.mem_of_getElem? (i := 132) rfl
set_option maxRecDepth 100000 in
theorem j_inst7 : Cond.instantiable RX7 2 ∈ lw_tbl := List.mem_of_getElem? (i := 240) rfl
set_option maxRecDepth 100000 in
theorem j_init7 : Cond.initialized RX7 ∈ lw_tbl := List.mem_of_getElem? (i := 128) rfl
set_option maxRecDepth 100000 in
theorem j_inst8 : Cond.instantiable RX8 2 ∈ lw_tbl := List.mem_of_getElem? (i := 327) rfl
set_option maxRecDepth 100000 in
theorem j_init8 : Cond.initialized RX8 ∈ lw_tbl := List.mem_of_getElem? (i := 131) rfl
set_option maxRecDepth 100000 in
theorem j_inst9 : Cond.instantiable RX9 9 ∈ lw_tbl := List.mem_of_getElem? (i := 194) rfl
set_option maxRecDepth 100000 in
theorem j_init9 : Cond.initialized RX9 ∈ lw_tbl := List.mem_of_getElem? (i := 126) rfl
set_option maxRecDepth 100000 in
theorem j_inst10 : Cond.instantiable RX10 8 ∈ lw_tbl := List.mem_of_getElem? (i := 159) rfl
set_option maxRecDepth 100000 in
theorem j_init10 : Cond.initialized RX10 ∈ lw_tbl := List.mem_of_getElem? (i := 125) rfl
set_option maxRecDepth 100000 in
theorem j_inst11 : Cond.instantiable RX11 18 ∈ lw_tbl := List.mem_of_getElem? (i := 147) rfl
set_option maxRecDepth 100000 in
theorem j_init11 : Cond.initialized RX11 ∈ lw_tbl := List.mem_of_getElem? (i := 124) rfl
set_option maxRecDepth 100000 in
theorem j_inst12 : Cond.instantiable RX12 81 ∈ lw_tbl := List.mem_of_getElem? (i := 1283) rfl
set_option maxRecDepth 100000 in
theorem j_init12 : Cond.initialized RX12 ∈ lw_tbl := List.mem_of_getElem? (i := 136) rfl
theorem j_inst (t : Nat) (ht : t < 13) : Cond.instantiable (j_R t) (j_N t) ∈ lw_tbl := j_13 (P := fun t => Cond.instantiable (j_R t) (j_N t) ∈ lw_tbl) j_inst0 j_inst1 j_inst2 j_inst3 j_inst4 j_inst5 j_inst6 j_inst7 j_inst8 j_inst9 j_inst10 j_inst11 j_inst12 t ht
theorem j_init (t : Nat) (ht : t < 13) : Cond.initialized (j_R t) ∈ lw_tbl := j_13 (P := fun t => Cond.initialized (j_R t) ∈ lw_tbl) j_init0 j_init1 j_init2 j_init3 j_init4 j_init5 j_init6 j_init7 j_init8 j_init9 j_init10 j_init11 j_init12 t ht
set_option maxRecDepth 100000 in
theorem j_arr50 : Cond.arrayClass FieldType.int ∈ lw_tbl := List.mem_of_getElem? (i := 192) rfl
set_option maxRecDepth 100000 in
theorem j_arr51 : Cond.arrayClass FieldType.char ∈ lw_tbl := List.mem_of_getElem? (i := 254) rfl
set_option maxRecDepth 100000 in
theorem j_arr52 : Cond.arrayClass FieldType.boolean ∈ lw_tbl := List.mem_of_getElem? (i := 1532) rfl
set_option maxRecDepth 100000 in
theorem j_arr53 : Cond.arrayClass FieldType.long ∈ lw_tbl := List.mem_of_getElem? (i := 1934) rfl
set_option maxRecDepth 100000 in
theorem j_over60 : Cond.arrayOver (FieldType.object RX7) ∈ lw_tbl := List.mem_of_getElem? (i := 155) rfl
set_option maxRecDepth 100000 in
theorem j_over61 : Cond.arrayOver (FieldType.object RX0) ∈ lw_tbl := List.mem_of_getElem? (i := 157) rfl
set_option maxRecDepth 100000 in
theorem j_over62 : Cond.arrayOver (FieldType.object RX3) ∈ lw_tbl := List.mem_of_getElem? (i := 441) rfl
set_option maxRecDepth 100000 in
theorem j_oi1 : Cond.instanceMethod objectInit ∈ lw_tbl := List.mem_of_getElem? (i := 152) rfl
set_option maxRecDepth 100000 in
theorem j_oi2 : Cond.code objectInit ⟨#[0xb1]⟩ 1 none ∈ lw_tbl := List.mem_of_getElem? (i := 153) rfl
set_option maxRecDepth 100000 in
theorem j_max1 : Cond.static Lib.Math.max.name ∈ lw_tbl := List.mem_of_getElem? (i := 585) rfl
set_option maxRecDepth 100000 in
theorem j_max2 : Cond.code Lib.Math.max.name Lib.Math.max.code 2 (some .int) ∈ lw_tbl := List.mem_of_getElem? (i := 586) rfl
set_option maxRecDepth 100000 in
theorem j_min1 : Cond.static Lib.Math.min.name ∈ lw_tbl := List.mem_of_getElem? (i := 582) rfl
set_option maxRecDepth 100000 in
theorem j_min2 : Cond.code Lib.Math.min.name Lib.Math.min.code 2 (some .int) ∈ lw_tbl := List.mem_of_getElem? (i := 583) rfl
set_option maxRecDepth 100000 in
theorem j_math : Cond.initialized "java/lang/Math" ∈ lw_tbl := List.mem_of_getElem? (i := 142) rfl
set_option maxRecDepth 100000 in
theorem j_ac1 : Cond.native arraycopyName ∈ lw_tbl := List.mem_of_getElem? (i := 704) rfl
set_option maxRecDepth 100000 in
theorem j_ac2 : Cond.static arraycopyName ∈ lw_tbl := List.mem_of_getElem? (i := 703) rfl
set_option maxRecDepth 100000 in
theorem j_ac3 : Cond.initialized "java/lang/System" ∈ lw_tbl := List.mem_of_getElem? (i := 143) rfl
