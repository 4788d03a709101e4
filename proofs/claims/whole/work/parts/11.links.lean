/-! ===== what the tables say of links and methods (printed by wip/whole/gen11.py) ===== -/
def j_own (o : Nat) : String := if o < 13 then j_R o else if o = 13 then RL else RJ6
def j_fl (o : Nat) : List (Nat × Nat × Nat × Bool) := match o with
  | 0 => [(12, 0, 0, false), (21, 0, 1, false), (28, 0, 2, false), (32, 0, 3, false), (38, 0, 4, false), (45, 0, 5, false), (49, 0, 6, false), (53, 0, 7, false), (61, 0, 8, false), (73, 0, 9, false), (86, 0, 15, false), (90, 0, 14, false), (93, 0, 13, false)]
  | 1 => [(9, 1, 0, false), (15, 1, 1, false), (18, 1, 2, false), (21, 1, 3, false), (25, 1, 4, false), (28, 1, 5, false), (31, 1, 6, false), (34, 1, 7, false)]
  | 2 => [(12, 2, 0, false), (18, 2, 1, false)]
  | 3 => [(10, 3, 0, false), (19, 3, 1, false), (23, 3, 2, false)]
  | 4 => [(12, 4, 0, false), (18, 4, 1, false), (24, 4, 4, false), (32, 4, 2, false), (36, 4, 3, false), (39, 1, 4, true), (48, 1, 3, true), (51, 1, 0, true), (55, 1, 1, true), (62, 1, 2, true), (68, 1, 5, true), (71, 1, 6, true), (151, 1, 7, true)]
  | 5 => [(12, 5, 0, false), (21, 5, 1, false), (29, 5, 2, false), (33, 5, 3, false), (36, 5, 4, false), (49, 7, 1, true), (87, 1, 5, true), (97, 1, 6, true), (100, 1, 7, true)]
  | 6 => [(9, 6, 0, false), (18, 6, 2, false), (22, 2, 0, true), (32, 2, 2, true), (35, 6, 4, false), (38, 6, 3, false), (41, 6, 5, false), (49, 2, 1, true), (54, 6, 1, false)]
  | 7 => [(9, 7, 0, false), (15, 7, 1, false)]
  | 8 => [(9, 8, 0, false), (15, 8, 1, false)]
  | 9 => [(9, 9, 0, false), (15, 9, 1, false), (18, 9, 2, false), (21, 9, 3, false), (24, 9, 4, false), (33, 9, 8, false), (37, 9, 6, false), (44, 0, 1, true), (50, 1, 7, true), (65, 1, 5, true), (72, 1, 6, true), (75, 10, 7, true), (78, 10, 0, true), (93, 9, 7, false), (96, 9, 5, false)]
  | 10 => [(9, 10, 0, false), (15, 10, 1, false), (18, 10, 2, false), (21, 10, 3, false), (24, 10, 4, false), (27, 10, 5, false), (30, 10, 7, false), (51, 10, 6, false)]
  | 11 => [(11, 11, 0, false), (17, 11, 1, false), (21, 11, 2, false), (28, 11, 3, false), (35, 11, 4, false), (42, 11, 5, false), (49, 11, 6, false), (56, 11, 7, false), (63, 11, 8, false), (70, 11, 9, false), (74, 11, 11, false), (94, 7, 1, true), (104, 11, 10, false), (123, 0, 10, true), (126, 0, 1, true), (129, 1, 4, true), (153, 11, 17, false), (157, 10, 3, true), (160, 6, 1, true), (176, 0, 0, true), (183, 0, 2, true), (190, 0, 16, true), (197, 0, 5, true), (207, 11, 15, false), (210, 11, 16, false), (221, 11, 12, false), (231, 9, 2, true), (252, 0, 3, true), (265, 0, 11, true), (268, 0, 12, true), (271, 9, 5, true), (274, 9, 4, true), (277, 11, 13, false), (286, 0, 15, true), (301, 9, 6, true), (304, 9, 7, true), (310, 0, 14, true), (320, 9, 3, true), (331, 3, 2, true), (336, 0, 4, true), (348, 4, 3, true), (356, 11, 14, false), (367, 1, 7, true)]
  | 12 => [(7, 12, 0, false), (13, 12, 1, false), (16, 12, 3, false), (19, 12, 4, false), (22, 12, 5, false), (25, 12, 6, false), (28, 12, 7, false), (31, 12, 8, false), (34, 12, 9, false), (37, 12, 10, false), (41, 12, 11, false), (44, 12, 12, false), (47, 12, 13, false), (50, 12, 14, false), (53, 12, 15, false), (56, 12, 16, false), (59, 12, 17, false), (62, 12, 18, false), (65, 12, 23, false), (68, 12, 24, false), (71, 12, 25, false), (74, 12, 26, false), (77, 12, 27, false), (80, 12, 31, false), (84, 12, 33, false), (87, 12, 34, false), (90, 12, 35, false), (93, 12, 36, false), (96, 12, 37, false), (99, 12, 38, false), (102, 12, 39, false), (105, 12, 40, false), (108, 12, 41, false), (111, 12, 42, false), (114, 12, 43, false), (117, 12, 44, false), (120, 12, 49, false), (123, 12, 50, false), (126, 12, 51, false), (129, 12, 52, false), (132, 12, 53, false), (135, 12, 54, false), (138, 12, 55, false), (141, 12, 56, false), (144, 12, 57, false), (147, 12, 58, false), (150, 12, 59, false), (153, 12, 60, false), (156, 12, 61, false), (159, 12, 62, false), (162, 12, 63, false), (165, 12, 65, false), (168, 12, 68, false), (171, 12, 69, false), (174, 12, 71, false), (177, 12, 73, false), (180, 12, 78, false), (183, 12, 79, false), (190, 12, 67, false), (193, 12, 66, false), (207, 12, 70, false), (255, 12, 2, false), (262, 12, 45, false), (272, 12, 22, false), (275, 12, 48, false), (287, 12, 32, false), (336, 12, 29, false), (343, 12, 75, false), (346, 12, 76, false), (349, 12, 72, false), (352, 12, 74, false), (355, 12, 77, false), (362, 12, 80, false), (368, 12, 30, false), (371, 12, 28, false), (434, 12, 19, false), (459, 12, 20, false), (471, 12, 21, false), (477, 12, 46, false), (480, 12, 47, false), (500, 12, 64, false)]
  | _ => []
def j_flw (o : Nat) (r : Nat × Nat × Nat × Bool) : Cond := if r.2.2.2 = true then .fieldLinkNest (j_own o) r.1 (j_T r.2.1 r.2.2.1).1 (j_T r.2.1 r.2.2.1).2.1 (j_T r.2.1 r.2.2.1).2.2.1 "NotebookWeir" else .fieldLink (j_own o) r.1 (j_T r.2.1 r.2.2.1).1 (j_T r.2.1 r.2.2.1).2.1 (j_T r.2.1 r.2.2.1).2.2.1
set_option maxRecDepth 100000 in
theorem j_fl_0 : ∀ r ∈ j_fl 0, j_flw 0 r ∈ lw_tbl := by
  have h : (j_fl 0).map (j_flw 0) = ([442, 444, 447, 449, 451, 453, 455, 456, 457, 458, 465, 463, 462] : List Nat).filterMap (fun i => lw_tbl[i]?) := by rfl
  intro r hr
  have h1 : j_flw 0 r ∈ (j_fl 0).map (j_flw 0) := List.mem_map.mpr ⟨r, hr, rfl⟩
  rw [h] at h1
  obtain ⟨i, -, hi⟩ := List.mem_filterMap.mp h1
  exact List.mem_of_getElem? hi
set_option maxRecDepth 100000 in
theorem j_fl_1 : ∀ r ∈ j_fl 1, j_flw 1 r ∈ lw_tbl := by
  have h : (j_fl 1).map (j_flw 1) = ([261, 263, 265, 267, 269, 272, 276, 280] : List Nat).filterMap (fun i => lw_tbl[i]?) := by rfl
  intro r hr
  have h1 : j_flw 1 r ∈ (j_fl 1).map (j_flw 1) := List.mem_map.mpr ⟨r, hr, rfl⟩
  rw [h] at h1
  obtain ⟨i, -, hi⟩ := List.mem_filterMap.mp h1
  exact List.mem_of_getElem? hi
set_option maxRecDepth 100000 in
theorem j_fl_2 : ∀ r ∈ j_fl 2, j_flw 2 r ∈ lw_tbl := by
  have h : (j_fl 2).map (j_flw 2) = ([353, 355] : List Nat).filterMap (fun i => lw_tbl[i]?) := by rfl
  intro r hr
  have h1 : j_flw 2 r ∈ (j_fl 2).map (j_flw 2) := List.mem_map.mpr ⟨r, hr, rfl⟩
  rw [h] at h1
  obtain ⟨i, -, hi⟩ := List.mem_filterMap.mp h1
  exact List.mem_of_getElem? hi
set_option maxRecDepth 100000 in
theorem j_fl_3 : ∀ r ∈ j_fl 3, j_flw 3 r ∈ lw_tbl := by
  have h : (j_fl 3).map (j_flw 3) = ([430, 431, 432] : List Nat).filterMap (fun i => lw_tbl[i]?) := by rfl
  intro r hr
  have h1 : j_flw 3 r ∈ (j_fl 3).map (j_flw 3) := List.mem_map.mpr ⟨r, hr, rfl⟩
  rw [h] at h1
  obtain ⟨i, -, hi⟩ := List.mem_filterMap.mp h1
  exact List.mem_of_getElem? hi
set_option maxRecDepth 100000 in
theorem j_fl_4 : ∀ r ∈ j_fl 4, j_flw 4 r ∈ lw_tbl := by
  have h : (j_fl 4).map (j_flw 4) = ([385, 386, 390, 387, 388, 270, 268, 262, 264, 266, 273, 277, 283] : List Nat).filterMap (fun i => lw_tbl[i]?) := by rfl
  intro r hr
  have h1 : j_flw 4 r ∈ (j_fl 4).map (j_flw 4) := List.mem_map.mpr ⟨r, hr, rfl⟩
  rw [h] at h1
  obtain ⟨i, -, hi⟩ := List.mem_filterMap.mp h1
  exact List.mem_of_getElem? hi
set_option maxRecDepth 100000 in
theorem j_fl_5 : ∀ r ∈ j_fl 5, j_flw 5 r ∈ lw_tbl := by
  have h : (j_fl 5).map (j_flw 5) = ([302, 303, 304, 305, 306, 248, 275, 279, 282] : List Nat).filterMap (fun i => lw_tbl[i]?) := by rfl
  intro r hr
  have h1 : j_flw 5 r ∈ (j_fl 5).map (j_flw 5) := List.mem_map.mpr ⟨r, hr, rfl⟩
  rw [h] at h1
  obtain ⟨i, -, hi⟩ := List.mem_filterMap.mp h1
  exact List.mem_of_getElem? hi
set_option maxRecDepth 100000 in
theorem j_fl_6 : ∀ r ∈ j_fl 6, j_flw 6 r ∈ lw_tbl := by
  have h : (j_fl 6).map (j_flw 6) = ([365, 368, 354, 357, 370, 369, 371, 356, 366] : List Nat).filterMap (fun i => lw_tbl[i]?) := by rfl
  intro r hr
  have h1 : j_flw 6 r ∈ (j_fl 6).map (j_flw 6) := List.mem_map.mpr ⟨r, hr, rfl⟩
  rw [h] at h1
  obtain ⟨i, -, hi⟩ := List.mem_filterMap.mp h1
  exact List.mem_of_getElem? hi
set_option maxRecDepth 100000 in
theorem j_fl_7 : ∀ r ∈ j_fl 7, j_flw 7 r ∈ lw_tbl := by
  have h : (j_fl 7).map (j_flw 7) = ([245, 246] : List Nat).filterMap (fun i => lw_tbl[i]?) := by rfl
  intro r hr
  have h1 : j_flw 7 r ∈ (j_fl 7).map (j_flw 7) := List.mem_map.mpr ⟨r, hr, rfl⟩
  rw [h] at h1
  obtain ⟨i, -, hi⟩ := List.mem_filterMap.mp h1
  exact List.mem_of_getElem? hi
set_option maxRecDepth 100000 in
theorem j_fl_8 : ∀ r ∈ j_fl 8, j_flw 8 r ∈ lw_tbl := by
  have h : (j_fl 8).map (j_flw 8) = ([332, 333] : List Nat).filterMap (fun i => lw_tbl[i]?) := by rfl
  intro r hr
  have h1 : j_flw 8 r ∈ (j_fl 8).map (j_flw 8) := List.mem_map.mpr ⟨r, hr, rfl⟩
  rw [h] at h1
  obtain ⟨i, -, hi⟩ := List.mem_filterMap.mp h1
  exact List.mem_of_getElem? hi
set_option maxRecDepth 100000 in
theorem j_fl_9 : ∀ r ∈ j_fl 9, j_flw 9 r ∈ lw_tbl := by
  have h : (j_fl 9).map (j_flw 9) = ([199, 200, 201, 203, 205, 213, 209, 445, 281, 274, 278, 174, 165, 211, 207] : List Nat).filterMap (fun i => lw_tbl[i]?) := by rfl
  intro r hr
  have h1 : j_flw 9 r ∈ (j_fl 9).map (j_flw 9) := List.mem_map.mpr ⟨r, hr, rfl⟩
  rw [h] at h1
  obtain ⟨i, -, hi⟩ := List.mem_filterMap.mp h1
  exact List.mem_of_getElem? hi
set_option maxRecDepth 100000 in
theorem j_fl_10 : ∀ r ∈ j_fl 10, j_flw 10 r ∈ lw_tbl := by
  have h : (j_fl 10).map (j_flw 10) = ([164, 166, 167, 168, 170, 171, 173, 172] : List Nat).filterMap (fun i => lw_tbl[i]?) := by rfl
  intro r hr
  have h1 : j_flw 10 r ∈ (j_fl 10).map (j_flw 10) := List.mem_map.mpr ⟨r, hr, rfl⟩
  rw [h] at h1
  obtain ⟨i, -, hi⟩ := List.mem_filterMap.mp h1
  exact List.mem_of_getElem? hi
set_option maxRecDepth 100000 in
theorem j_fl_11 : ∀ r ∈ j_fl 11, j_flw 11 r ∈ lw_tbl := by
  have h : (j_fl 11).map (j_flw 11) = ([503, 504, 505, 506, 507, 508, 509, 510, 511, 512, 514, 247, 513, 459, 446, 271, 520, 169, 367, 443, 448, 467, 454, 518, 519, 515, 202, 450, 460, 461, 208, 206, 516, 466, 210, 212, 464, 204, 433, 452, 389, 517, 284] : List Nat).filterMap (fun i => lw_tbl[i]?) := by rfl
  intro r hr
  have h1 : j_flw 11 r ∈ (j_fl 11).map (j_flw 11) := List.mem_map.mpr ⟨r, hr, rfl⟩
  rw [h] at h1
  obtain ⟨i, -, hi⟩ := List.mem_filterMap.mp h1
  exact List.mem_of_getElem? hi
set_option maxRecDepth 100000 in
theorem j_fl_12 : ∀ r ∈ j_fl 12, j_flw 12 r ∈ lw_tbl := by
  have h : (j_fl 12).map (j_flw 12) = ([1288, 1289, 1291, 1292, 1293, 1294, 1295, 1296, 1297, 1298, 1299, 1300, 1301, 1302, 1303, 1304, 1305, 1306, 1311, 1312, 1313, 1314, 1315, 1319, 1321, 1322, 1323, 1324, 1325, 1326, 1327, 1328, 1329, 1330, 1331, 1332, 1337, 1338, 1339, 1340, 1341, 1342, 1343, 1344, 1345, 1346, 1347, 1348, 1349, 1350, 1351, 1353, 1356, 1357, 1359, 1361, 1366, 1367, 1355, 1354, 1358, 1290, 1333, 1310, 1336, 1320, 1317, 1363, 1364, 1360, 1362, 1365, 1368, 1318, 1316, 1307, 1308, 1309, 1334, 1335, 1352] : List Nat).filterMap (fun i => lw_tbl[i]?) := by rfl
  intro r hr
  have h1 : j_flw 12 r ∈ (j_fl 12).map (j_flw 12) := List.mem_map.mpr ⟨r, hr, rfl⟩
  rw [h] at h1
  obtain ⟨i, -, hi⟩ := List.mem_filterMap.mp h1
  exact List.mem_of_getElem? hi
theorem j_fl_ok (o : Nat) : ∀ r ∈ j_fl o, j_flw o r ∈ lw_tbl := by
  match o with
  | 0 => exact j_fl_0
  | 1 => exact j_fl_1
  | 2 => exact j_fl_2
  | 3 => exact j_fl_3
  | 4 => exact j_fl_4
  | 5 => exact j_fl_5
  | 6 => exact j_fl_6
  | 7 => exact j_fl_7
  | 8 => exact j_fl_8
  | 9 => exact j_fl_9
  | 10 => exact j_fl_10
  | 11 => exact j_fl_11
  | 12 => exact j_fl_12
  | n + 13 => intro r hr; cases hr
def j_clk (o : Nat) : List (Nat × Nat) := match o with
  | 0 => [(9, 7), (18, 1), (25, 8), (35, 2), (42, 3)]
  | 2 => [(9, 7)]
  | 3 => [(7, 7), (16, 8)]
  | 4 => [(9, 8), (21, 6)]
  | 5 => [(9, 7), (18, 1)]
  | 6 => [(15, 2)]
  | 11 => [(9, 7), (15, 0), (25, 10), (32, 9), (39, 5), (46, 1), (53, 4), (60, 6), (67, 8)]
  | 13 => [(8, 11), (81, 12)]
  | _ => []
def j_clw (o : Nat) (r : Nat × Nat) : Cond := .classLink (j_own o) r.1 (j_R r.2)
set_option maxRecDepth 100000 in
theorem j_clk_0 : ∀ r ∈ j_clk 0, j_clw 0 r ∈ lw_tbl := by
  have h : (j_clk 0).map (j_clw 0) = ([412, 414, 416, 418, 420] : List Nat).filterMap (fun i => lw_tbl[i]?) := by rfl
  intro r hr
  have h1 : j_clw 0 r ∈ (j_clk 0).map (j_clw 0) := List.mem_map.mpr ⟨r, hr, rfl⟩
  rw [h] at h1
  obtain ⟨i, -, hi⟩ := List.mem_filterMap.mp h1
  exact List.mem_of_getElem? hi
set_option maxRecDepth 100000 in
theorem j_clk_2 : ∀ r ∈ j_clk 2, j_clw 2 r ∈ lw_tbl := by
  have h : (j_clk 2).map (j_clw 2) = ([351] : List Nat).filterMap (fun i => lw_tbl[i]?) := by rfl
  intro r hr
  have h1 : j_clw 2 r ∈ (j_clk 2).map (j_clw 2) := List.mem_map.mpr ⟨r, hr, rfl⟩
  rw [h] at h1
  obtain ⟨i, -, hi⟩ := List.mem_filterMap.mp h1
  exact List.mem_of_getElem? hi
set_option maxRecDepth 100000 in
theorem j_clk_3 : ∀ r ∈ j_clk 3, j_clw 3 r ∈ lw_tbl := by
  have h : (j_clk 3).map (j_clw 3) = ([426, 428] : List Nat).filterMap (fun i => lw_tbl[i]?) := by rfl
  intro r hr
  have h1 : j_clw 3 r ∈ (j_clk 3).map (j_clw 3) := List.mem_map.mpr ⟨r, hr, rfl⟩
  rw [h] at h1
  obtain ⟨i, -, hi⟩ := List.mem_filterMap.mp h1
  exact List.mem_of_getElem? hi
set_option maxRecDepth 100000 in
theorem j_clk_4 : ∀ r ∈ j_clk 4, j_clw 4 r ∈ lw_tbl := by
  have h : (j_clk 4).map (j_clw 4) = ([326, 339] : List Nat).filterMap (fun i => lw_tbl[i]?) := by rfl
  intro r hr
  have h1 : j_clw 4 r ∈ (j_clk 4).map (j_clw 4) := List.mem_map.mpr ⟨r, hr, rfl⟩
  rw [h] at h1
  obtain ⟨i, -, hi⟩ := List.mem_filterMap.mp h1
  exact List.mem_of_getElem? hi
set_option maxRecDepth 100000 in
theorem j_clk_5 : ∀ r ∈ j_clk 5, j_clw 5 r ∈ lw_tbl := by
  have h : (j_clk 5).map (j_clw 5) = ([239, 255] : List Nat).filterMap (fun i => lw_tbl[i]?) := by rfl
  intro r hr
  have h1 : j_clw 5 r ∈ (j_clk 5).map (j_clw 5) := List.mem_map.mpr ⟨r, hr, rfl⟩
  rw [h] at h1
  obtain ⟨i, -, hi⟩ := List.mem_filterMap.mp h1
  exact List.mem_of_getElem? hi
set_option maxRecDepth 100000 in
theorem j_clk_6 : ∀ r ∈ j_clk 6, j_clw 6 r ∈ lw_tbl := by
  have h : (j_clk 6).map (j_clw 6) = ([345] : List Nat).filterMap (fun i => lw_tbl[i]?) := by rfl
  intro r hr
  have h1 : j_clw 6 r ∈ (j_clk 6).map (j_clw 6) := List.mem_map.mpr ⟨r, hr, rfl⟩
  rw [h] at h1
  obtain ⟨i, -, hi⟩ := List.mem_filterMap.mp h1
  exact List.mem_of_getElem? hi
set_option maxRecDepth 100000 in
theorem j_clk_11 : ∀ r ∈ j_clk 11, j_clw 11 r ∈ lw_tbl := by
  have h : (j_clk 11).map (j_clw 11) = ([154, 156, 158, 193, 233, 318, 320, 402, 404] : List Nat).filterMap (fun i => lw_tbl[i]?) := by rfl
  intro r hr
  have h1 : j_clw 11 r ∈ (j_clk 11).map (j_clw 11) := List.mem_map.mpr ⟨r, hr, rfl⟩
  rw [h] at h1
  obtain ⟨i, -, hi⟩ := List.mem_filterMap.mp h1
  exact List.mem_of_getElem? hi
set_option maxRecDepth 100000 in
theorem j_clk_13 : ∀ r ∈ j_clk 13, j_clw 13 r ∈ lw_tbl := by
  have h : (j_clk 13).map (j_clw 13) = ([146, 1282] : List Nat).filterMap (fun i => lw_tbl[i]?) := by rfl
  intro r hr
  have h1 : j_clw 13 r ∈ (j_clk 13).map (j_clw 13) := List.mem_map.mpr ⟨r, hr, rfl⟩
  rw [h] at h1
  obtain ⟨i, -, hi⟩ := List.mem_filterMap.mp h1
  exact List.mem_of_getElem? hi
theorem j_clk_ok (o : Nat) : ∀ r ∈ j_clk o, j_clw o r ∈ lw_tbl := by
  match o with
  | 0 => exact j_clk_0
  | 2 => exact j_clk_2
  | 3 => exact j_clk_3
  | 4 => exact j_clk_4
  | 5 => exact j_clk_5
  | 6 => exact j_clk_6
  | 11 => exact j_clk_11
  | 13 => exact j_clk_13
  | 1 => intro r hr; cases hr
  | 7 => intro r hr; cases hr
  | 8 => intro r hr; cases hr
  | 9 => intro r hr; cases hr
  | 10 => intro r hr; cases hr
  | 12 => intro r hr; cases hr
  | n + 14 => intro r hr; cases hr
def j_cst (o : Nat) : List (Nat × Nat) := match o with
  | 6 => [(53, 65537)]
  | 9 => [(58, 65535)]
  | 11 => [(296, 65535)]
  | 12 => [(308, 65535), (374, 65537)]
  | 14 => [(265, 1431655765), (266, 858993459), (267, 252645135)]
  | _ => []
def j_csw (o : Nat) (r : Nat × Nat) : Cond := .constant (j_own o) r.1 (Int32.ofNat r.2)
set_option maxRecDepth 100000 in
theorem j_cst_6 : ∀ r ∈ j_cst 6, j_csw 6 r ∈ lw_tbl := by
  have h : (j_cst 6).map (j_csw 6) = ([766] : List Nat).filterMap (fun i => lw_tbl[i]?) := by rfl
  intro r hr
  have h1 : j_csw 6 r ∈ (j_cst 6).map (j_csw 6) := List.mem_map.mpr ⟨r, hr, rfl⟩
  rw [h] at h1
  obtain ⟨i, -, hi⟩ := List.mem_filterMap.mp h1
  exact List.mem_of_getElem? hi
set_option maxRecDepth 100000 in
theorem j_cst_9 : ∀ r ∈ j_cst 9, j_csw 9 r ∈ lw_tbl := by
  have h : (j_cst 9).map (j_csw 9) = ([639] : List Nat).filterMap (fun i => lw_tbl[i]?) := by rfl
  intro r hr
  have h1 : j_csw 9 r ∈ (j_cst 9).map (j_csw 9) := List.mem_map.mpr ⟨r, hr, rfl⟩
  rw [h] at h1
  obtain ⟨i, -, hi⟩ := List.mem_filterMap.mp h1
  exact List.mem_of_getElem? hi
set_option maxRecDepth 100000 in
theorem j_cst_11 : ∀ r ∈ j_cst 11, j_csw 11 r ∈ lw_tbl := by
  have h : (j_cst 11).map (j_csw 11) = ([591] : List Nat).filterMap (fun i => lw_tbl[i]?) := by rfl
  intro r hr
  have h1 : j_csw 11 r ∈ (j_cst 11).map (j_csw 11) := List.mem_map.mpr ⟨r, hr, rfl⟩
  rw [h] at h1
  obtain ⟨i, -, hi⟩ := List.mem_filterMap.mp h1
  exact List.mem_of_getElem? hi
set_option maxRecDepth 100000 in
theorem j_cst_12 : ∀ r ∈ j_cst 12, j_csw 12 r ∈ lw_tbl := by
  have h : (j_cst 12).map (j_csw 12) = ([1621, 1753] : List Nat).filterMap (fun i => lw_tbl[i]?) := by rfl
  intro r hr
  have h1 : j_csw 12 r ∈ (j_cst 12).map (j_csw 12) := List.mem_map.mpr ⟨r, hr, rfl⟩
  rw [h] at h1
  obtain ⟨i, -, hi⟩ := List.mem_filterMap.mp h1
  exact List.mem_of_getElem? hi
set_option maxRecDepth 100000 in
theorem j_cst_14 : ∀ r ∈ j_cst 14, j_csw 14 r ∈ lw_tbl := by
  have h : (j_cst 14).map (j_csw 14) = ([746, 747, 748] : List Nat).filterMap (fun i => lw_tbl[i]?) := by rfl
  intro r hr
  have h1 : j_csw 14 r ∈ (j_cst 14).map (j_csw 14) := List.mem_map.mpr ⟨r, hr, rfl⟩
  rw [h] at h1
  obtain ⟨i, -, hi⟩ := List.mem_filterMap.mp h1
  exact List.mem_of_getElem? hi
theorem j_cst_ok (o : Nat) : ∀ r ∈ j_cst o, j_csw o r ∈ lw_tbl := by
  match o with
  | 6 => exact j_cst_6
  | 9 => exact j_cst_9
  | 11 => exact j_cst_11
  | 12 => exact j_cst_12
  | 14 => exact j_cst_14
  | 0 => intro r hr; cases hr
  | 1 => intro r hr; cases hr
  | 2 => intro r hr; cases hr
  | 3 => intro r hr; cases hr
  | 4 => intro r hr; cases hr
  | 5 => intro r hr; cases hr
  | 7 => intro r hr; cases hr
  | 8 => intro r hr; cases hr
  | 10 => intro r hr; cases hr
  | 13 => intro r hr; cases hr
  | n + 15 => intro r hr; cases hr
def j_ol (o : Nat) : List (Nat × Nat) := match o with
  | 0 => [(0, 3), (2, 80)]
  | 1 => [(0, 3), (3, 37)]
  | 2 => [(0, 3)]
  | 3 => [(0, 1)]
  | 4 => [(0, 3), (1, 146)]
  | 5 => [(0, 3), (1, 63)]
  | 6 => [(0, 3)]
  | 7 => [(0, 3)]
  | 8 => [(0, 3), (3, 18)]
  | 9 => [(0, 3), (2, 27)]
  | 10 => [(0, 3), (2, 42), (1, 48)]
  | 11 => [(0, 3)]
  | 12 => [(0, 1)]
  | _ => []
def j_olw (o : Nat) (r : Nat × Nat) : Cond := .methodLink (j_own o) r.2 (match r.1 with | 0 => objectInit | 1 => Lib.Math.max.name | 2 => Lib.Math.min.name | _ => arraycopyName)
set_option maxRecDepth 100000 in
theorem j_ol_0 : ∀ r ∈ j_ol 0, j_olw 0 r ∈ lw_tbl := by
  have h : (j_ol 0).map (j_olw 0) = ([411, 826] : List Nat).filterMap (fun i => lw_tbl[i]?) := by rfl
  intro r hr
  have h1 : j_olw 0 r ∈ (j_ol 0).map (j_olw 0) := List.mem_map.mpr ⟨r, hr, rfl⟩
  rw [h] at h1
  obtain ⟨i, -, hi⟩ := List.mem_filterMap.mp h1
  exact List.mem_of_getElem? hi
set_option maxRecDepth 100000 in
theorem j_ol_1 : ∀ r ∈ j_ol 1, j_olw 1 r ∈ lw_tbl := by
  have h : (j_ol 1).map (j_olw 1) = ([260, 1066] : List Nat).filterMap (fun i => lw_tbl[i]?) := by rfl
  intro r hr
  have h1 : j_olw 1 r ∈ (j_ol 1).map (j_olw 1) := List.mem_map.mpr ⟨r, hr, rfl⟩
  rw [h] at h1
  obtain ⟨i, -, hi⟩ := List.mem_filterMap.mp h1
  exact List.mem_of_getElem? hi
set_option maxRecDepth 100000 in
theorem j_ol_2 : ∀ r ∈ j_ol 2, j_olw 2 r ∈ lw_tbl := by
  have h : (j_ol 2).map (j_olw 2) = ([350] : List Nat).filterMap (fun i => lw_tbl[i]?) := by rfl
  intro r hr
  have h1 : j_olw 2 r ∈ (j_ol 2).map (j_olw 2) := List.mem_map.mpr ⟨r, hr, rfl⟩
  rw [h] at h1
  obtain ⟨i, -, hi⟩ := List.mem_filterMap.mp h1
  exact List.mem_of_getElem? hi
set_option maxRecDepth 100000 in
theorem j_ol_3 : ∀ r ∈ j_ol 3, j_olw 3 r ∈ lw_tbl := by
  have h : (j_ol 3).map (j_olw 3) = ([425] : List Nat).filterMap (fun i => lw_tbl[i]?) := by rfl
  intro r hr
  have h1 : j_olw 3 r ∈ (j_ol 3).map (j_olw 3) := List.mem_map.mpr ⟨r, hr, rfl⟩
  rw [h] at h1
  obtain ⟨i, -, hi⟩ := List.mem_filterMap.mp h1
  exact List.mem_of_getElem? hi
set_option maxRecDepth 100000 in
theorem j_ol_4 : ∀ r ∈ j_ol 4, j_olw 4 r ∈ lw_tbl := by
  have h : (j_ol 4).map (j_olw 4) = ([325, 803] : List Nat).filterMap (fun i => lw_tbl[i]?) := by rfl
  intro r hr
  have h1 : j_olw 4 r ∈ (j_ol 4).map (j_olw 4) := List.mem_map.mpr ⟨r, hr, rfl⟩
  rw [h] at h1
  obtain ⟨i, -, hi⟩ := List.mem_filterMap.mp h1
  exact List.mem_of_getElem? hi
set_option maxRecDepth 100000 in
theorem j_ol_5 : ∀ r ∈ j_ol 5, j_olw 5 r ∈ lw_tbl := by
  have h : (j_ol 5).map (j_olw 5) = ([238, 1000] : List Nat).filterMap (fun i => lw_tbl[i]?) := by rfl
  intro r hr
  have h1 : j_olw 5 r ∈ (j_ol 5).map (j_olw 5) := List.mem_map.mpr ⟨r, hr, rfl⟩
  rw [h] at h1
  obtain ⟨i, -, hi⟩ := List.mem_filterMap.mp h1
  exact List.mem_of_getElem? hi
set_option maxRecDepth 100000 in
theorem j_ol_6 : ∀ r ∈ j_ol 6, j_olw 6 r ∈ lw_tbl := by
  have h : (j_ol 6).map (j_olw 6) = ([344] : List Nat).filterMap (fun i => lw_tbl[i]?) := by rfl
  intro r hr
  have h1 : j_olw 6 r ∈ (j_ol 6).map (j_olw 6) := List.mem_map.mpr ⟨r, hr, rfl⟩
  rw [h] at h1
  obtain ⟨i, -, hi⟩ := List.mem_filterMap.mp h1
  exact List.mem_of_getElem? hi
set_option maxRecDepth 100000 in
theorem j_ol_7 : ∀ r ∈ j_ol 7, j_olw 7 r ∈ lw_tbl := by
  have h : (j_ol 7).map (j_olw 7) = ([244] : List Nat).filterMap (fun i => lw_tbl[i]?) := by rfl
  intro r hr
  have h1 : j_olw 7 r ∈ (j_ol 7).map (j_olw 7) := List.mem_map.mpr ⟨r, hr, rfl⟩
  rw [h] at h1
  obtain ⟨i, -, hi⟩ := List.mem_filterMap.mp h1
  exact List.mem_of_getElem? hi
set_option maxRecDepth 100000 in
theorem j_ol_8 : ∀ r ∈ j_ol 8, j_olw 8 r ∈ lw_tbl := by
  have h : (j_ol 8).map (j_olw 8) = ([331, 702] : List Nat).filterMap (fun i => lw_tbl[i]?) := by rfl
  intro r hr
  have h1 : j_olw 8 r ∈ (j_ol 8).map (j_olw 8) := List.mem_map.mpr ⟨r, hr, rfl⟩
  rw [h] at h1
  obtain ⟨i, -, hi⟩ := List.mem_filterMap.mp h1
  exact List.mem_of_getElem? hi
set_option maxRecDepth 100000 in
theorem j_ol_9 : ∀ r ∈ j_ol 9, j_olw 9 r ∈ lw_tbl := by
  have h : (j_ol 9).map (j_olw 9) = ([198, 1079] : List Nat).filterMap (fun i => lw_tbl[i]?) := by rfl
  intro r hr
  have h1 : j_olw 9 r ∈ (j_ol 9).map (j_olw 9) := List.mem_map.mpr ⟨r, hr, rfl⟩
  rw [h] at h1
  obtain ⟨i, -, hi⟩ := List.mem_filterMap.mp h1
  exact List.mem_of_getElem? hi
set_option maxRecDepth 100000 in
theorem j_ol_10 : ∀ r ∈ j_ol 10, j_olw 10 r ∈ lw_tbl := by
  have h : (j_ol 10).map (j_olw 10) = ([163, 581, 584] : List Nat).filterMap (fun i => lw_tbl[i]?) := by rfl
  intro r hr
  have h1 : j_olw 10 r ∈ (j_ol 10).map (j_olw 10) := List.mem_map.mpr ⟨r, hr, rfl⟩
  rw [h] at h1
  obtain ⟨i, -, hi⟩ := List.mem_filterMap.mp h1
  exact List.mem_of_getElem? hi
set_option maxRecDepth 100000 in
theorem j_ol_11 : ∀ r ∈ j_ol 11, j_olw 11 r ∈ lw_tbl := by
  have h : (j_ol 11).map (j_olw 11) = ([151] : List Nat).filterMap (fun i => lw_tbl[i]?) := by rfl
  intro r hr
  have h1 : j_olw 11 r ∈ (j_ol 11).map (j_olw 11) := List.mem_map.mpr ⟨r, hr, rfl⟩
  rw [h] at h1
  obtain ⟨i, -, hi⟩ := List.mem_filterMap.mp h1
  exact List.mem_of_getElem? hi
set_option maxRecDepth 100000 in
theorem j_ol_12 : ∀ r ∈ j_ol 12, j_olw 12 r ∈ lw_tbl := by
  have h : (j_ol 12).map (j_olw 12) = ([1287] : List Nat).filterMap (fun i => lw_tbl[i]?) := by rfl
  intro r hr
  have h1 : j_olw 12 r ∈ (j_ol 12).map (j_olw 12) := List.mem_map.mpr ⟨r, hr, rfl⟩
  rw [h] at h1
  obtain ⟨i, -, hi⟩ := List.mem_filterMap.mp h1
  exact List.mem_of_getElem? hi
theorem j_ol_ok (o : Nat) : ∀ r ∈ j_ol o, j_olw o r ∈ lw_tbl := by
  match o with
  | 0 => exact j_ol_0
  | 1 => exact j_ol_1
  | 2 => exact j_ol_2
  | 3 => exact j_ol_3
  | 4 => exact j_ol_4
  | 5 => exact j_ol_5
  | 6 => exact j_ol_6
  | 7 => exact j_ol_7
  | 8 => exact j_ol_8
  | 9 => exact j_ol_9
  | 10 => exact j_ol_10
  | 11 => exact j_ol_11
  | 12 => exact j_ol_12
  | n + 13 => intro r hr; cases hr
def j_xl (o : Nat) : List (Nat × Nat × Nat) := match o with
  | 11 => [(0, 84, 86), (1, 91, 93), (2, 120, 122)]
  | _ => []
def j_xlw (o : Nat) (r : Nat × Nat × Nat) : Cond := .classLink (j_own o) r.2.1 (j_xn r.1)
set_option maxRecDepth 100000 in
theorem j_xl_11 : ∀ r ∈ j_xl 11, j_xlw 11 r ∈ lw_tbl := by
  have h : (j_xl 11).map (j_xlw 11) = ([870, 937, 1110] : List Nat).filterMap (fun i => lw_tbl[i]?) := by rfl
  intro r hr
  have h1 : j_xlw 11 r ∈ (j_xl 11).map (j_xlw 11) := List.mem_map.mpr ⟨r, hr, rfl⟩
  rw [h] at h1
  obtain ⟨i, -, hi⟩ := List.mem_filterMap.mp h1
  exact List.mem_of_getElem? hi
theorem j_xl_ok (o : Nat) : ∀ r ∈ j_xl o, j_xlw o r ∈ lw_tbl := by
  match o with
  | 11 => exact j_xl_11
  | 0 => intro r hr; cases hr
  | 1 => intro r hr; cases hr
  | 2 => intro r hr; cases hr
  | 3 => intro r hr; cases hr
  | 4 => intro r hr; cases hr
  | 5 => intro r hr; cases hr
  | 6 => intro r hr; cases hr
  | 7 => intro r hr; cases hr
  | 8 => intro r hr; cases hr
  | 9 => intro r hr; cases hr
  | 10 => intro r hr; cases hr
  | n + 12 => intro r hr; cases hr
def j_el (o : Nat) : List (Nat × Nat) := match o with
  | 13 => [(13, 0), (15, 1), (28, 2)]
  | _ => []
def j_elw (o : Nat) (r : Nat × Nat) : Cond := .classLink (j_own o) r.1 (j_xn r.2)
set_option maxRecDepth 100000 in
theorem j_el_13 : ∀ r ∈ j_el 13, j_elw 13 r ∈ lw_tbl := by
  have h : (j_el 13).map (j_elw 13) = ([861, 862, 1105] : List Nat).filterMap (fun i => lw_tbl[i]?) := by rfl
  intro r hr
  have h1 : j_elw 13 r ∈ (j_el 13).map (j_elw 13) := List.mem_map.mpr ⟨r, hr, rfl⟩
  rw [h] at h1
  obtain ⟨i, -, hi⟩ := List.mem_filterMap.mp h1
  exact List.mem_of_getElem? hi
theorem j_el_ok (o : Nat) : ∀ r ∈ j_el o, j_elw o r ∈ lw_tbl := by
  match o with
  | 13 => exact j_el_13
  | 0 => intro r hr; cases hr
  | 1 => intro r hr; cases hr
  | 2 => intro r hr; cases hr
  | 3 => intro r hr; cases hr
  | 4 => intro r hr; cases hr
  | 5 => intro r hr; cases hr
  | 6 => intro r hr; cases hr
  | 7 => intro r hr; cases hr
  | 8 => intro r hr; cases hr
  | 9 => intro r hr; cases hr
  | 10 => intro r hr; cases hr
  | 11 => intro r hr; cases hr
  | 12 => intro r hr; cases hr
  | n + 14 => intro r hr; cases hr
set_option maxRecDepth 100000 in
theorem j_cast0 : Cond.castable (j_xn 0) (j_xn 0) ∈ lw_tbl := List.mem_of_getElem? (i := 872) rfl
set_option maxRecDepth 100000 in
theorem j_xini0 : Cond.initialized (j_xn 0) ∈ lw_tbl := List.mem_of_getElem? (i := 140) rfl
set_option maxRecDepth 100000 in
theorem j_cast1 : Cond.castable (j_xn 1) (j_xn 1) ∈ lw_tbl := List.mem_of_getElem? (i := 939) rfl
set_option maxRecDepth 100000 in
theorem j_xini1 : Cond.initialized (j_xn 1) ∈ lw_tbl := List.mem_of_getElem? (i := 141) rfl
set_option maxRecDepth 100000 in
theorem j_cast2 : Cond.castable (j_xn 2) (j_xn 2) ∈ lw_tbl := List.mem_of_getElem? (i := 1112) rfl
set_option maxRecDepth 100000 in
theorem j_xini2 : Cond.initialized (j_xn 2) ∈ lw_tbl := List.mem_of_getElem? (i := 145) rfl
theorem j_xat0 : (vx_at0 (j_own 11) 86 (j_xn 0) ["java/lang/RuntimeException", "java/lang/Exception"]).all (fun w => decide (w ∈ lw_tbl) && j_good w && vx_ot w) = true := by decide +kernel
theorem j_xat1 : (vx_at0 (j_own 11) 93 (j_xn 1) ["java/lang/RuntimeException", "java/lang/Exception"]).all (fun w => decide (w ∈ lw_tbl) && j_good w && vx_ot w) = true := by decide +kernel
theorem j_xat2 : (vx_at0 (j_own 11) 122 (j_xn 2) ["java/lang/RuntimeException", "java/lang/Exception"]).all (fun w => decide (w ∈ lw_tbl) && j_good w && vx_ot w) = true := by decide +kernel
/-- owner, name, bytes, locals, return type, kind (0 static, 1 of an object, 2 constructor), how many parameters, exception table -/
abbrev jD : Type := Nat × MethodName × ByteArray × Nat × Option FieldType × Nat × Nat × List (Nat × Nat × Nat × Nat)
def jMD : List jD := [(0, yX0_init, cX0_init, 2, none, 2, 0, []),
  (0, yX0_isRepeatable, cX0_isRepeatable, 1, (some (Jvm.ClassFile.FieldType.boolean)), 1, 0, []),
  (0, yX0_recall, cX0_recall, 3, (some ((Jvm.ClassFile.FieldType.object "NotebookWeir$Kept"))), 1, 1, []),
  (0, yX0_remember, cX0_remember, 2, none, 1, 1, []),
  (0, yX0_settle, cX0_settle, 5, none, 1, 3, []),
  (0, yX0_isAsThen, cX0_isAsThen, 4, (some (Jvm.ClassFile.FieldType.boolean)), 1, 2, []),
  (0, yX0_forget, cX0_forget, 1, none, 1, 0, []),
  (1, yX1_init, cX1_init, 1, none, 2, 0, []),
  (1, yX1_clear, cX1_clear, 2, none, 1, 1, []),
  (1, yX1_take, cX1_take, 2, none, 1, 1, []),
  (1, yX1_add, cX1_add, 4, none, 1, 3, []),
  (2, yX2_init, cX2_init, 1, none, 2, 0, []),
  (3, yX3_init, cX3_init, 1, none, 2, 0, []),
  (3, yX3_take, cX3_take, 4, none, 1, 3, []),
  (3, yX3_isOf, cX3_isOf, 3, (some (Jvm.ClassFile.FieldType.boolean)), 1, 2, []),
  (4, yX4_init, cX4_init, 1, none, 2, 0, []),
  (4, yX4_execute, cX4_execute, 6, (some (Jvm.ClassFile.FieldType.int)), 1, 3, []),
  (4, yX4_handOver, cX4_handOver, 4, none, 1, 2, []),
  (4, yX4_takeStep, cX4_takeStep, 3, (some (Jvm.ClassFile.FieldType.int)), 1, 2, []),
  (4, yX4_push, cX4_push, 2, (some (Jvm.ClassFile.FieldType.int)), 1, 1, []),
  (4, yX4_pushName, cX4_pushName, 2, (some (Jvm.ClassFile.FieldType.int)), 1, 1, []),
  (4, yX4_pop, cX4_pop, 2, (some (Jvm.ClassFile.FieldType.int)), 1, 1, []),
  (4, yX4_combine, cX4_combine, 6, (some (Jvm.ClassFile.FieldType.int)), 1, 1, []),
  (4, yX4_change, cX4_change, 3, (some (Jvm.ClassFile.FieldType.int)), 1, 1, []),
  (4, yX4_pickItem, cX4_pickItem, 3, (some (Jvm.ClassFile.FieldType.int)), 1, 1, []),
  (4, yX4_countItems, cX4_countItems, 2, (some (Jvm.ClassFile.FieldType.int)), 1, 0, []),
  (4, yX4_makeRow, cX4_makeRow, 4, (some (Jvm.ClassFile.FieldType.int)), 1, 1, []),
  (4, yX4_keepItems, cX4_keepItems, 7, (some (Jvm.ClassFile.FieldType.int)), 1, 2, []),
  (4, yX4_isKept, cX4_isKept, 3, (some (Jvm.ClassFile.FieldType.boolean)), 0, 3, []),
  (4, yX4_sumUp, cX4_sumUp, 6, (some (Jvm.ClassFile.FieldType.int)), 1, 1, []),
  (4, yX4_holdHeads, cX4_holdHeads, 4, (some (Jvm.ClassFile.FieldType.int)), 1, 1, []),
  (4, yX4_isUntold, cX4_isUntold, 3, (some (Jvm.ClassFile.FieldType.boolean)), 1, 1, []),
  (4, yX4_holdingAmong, cX4_holdingAmong, 5, (some (Jvm.ClassFile.FieldType.int)), 1, 1, []),
  (4, yX4_holdMore, cX4_holdMore, 5, (some (Jvm.ClassFile.FieldType.int)), 0, 2, []),
  (5, yX5_init, cX5_init, 1, none, 2, 0, []),
  (5, yX5_read, cX5_read, 5, (some (Jvm.ClassFile.FieldType.int)), 1, 3, []),
  (5, yX5_skip, cX5_skip, 2, (some (Jvm.ClassFile.FieldType.boolean)), 1, 1, []),
  (5, yX5_readName, cX5_readName, 2, (some (Jvm.ClassFile.FieldType.int)), 1, 0, []),
  (5, yX5_readDigits, cX5_readDigits, 3, (some (Jvm.ClassFile.FieldType.int)), 1, 0, []),
  (5, yX5_readStatements, cX5_readStatements, 2, (some (Jvm.ClassFile.FieldType.boolean)), 1, 0, []),
  (5, yX5_readStatement, cX5_readStatement, 3, (some (Jvm.ClassFile.FieldType.boolean)), 1, 0, []),
  (5, yX5_noteChange, cX5_noteChange, 2, none, 1, 1, []),
  (5, yX5_readExpression, cX5_readExpression, 4, (some (Jvm.ClassFile.FieldType.boolean)), 1, 1, []),
  (5, yX5_readTerm, cX5_readTerm, 3, (some (Jvm.ClassFile.FieldType.boolean)), 1, 1, []),
  (5, yX5_readFactor, cX5_readFactor, 3, (some (Jvm.ClassFile.FieldType.boolean)), 1, 1, []),
  (5, yX5_readPart, cX5_readPart, 3, (some (Jvm.ClassFile.FieldType.boolean)), 1, 1, []),
  (5, yX5_readSimplePart, cX5_readSimplePart, 2, (some (Jvm.ClassFile.FieldType.boolean)), 1, 0, []),
  (5, yX5_readRow, cX5_readRow, 3, (some (Jvm.ClassFile.FieldType.boolean)), 1, 1, []),
  (5, yX5_readQuery, cX5_readQuery, 6, (some (Jvm.ClassFile.FieldType.boolean)), 1, 0, []),
  (5, yX5_readSummary, cX5_readSummary, 1, (some (Jvm.ClassFile.FieldType.boolean)), 1, 0, []),
  (5, yX5_readClauses, cX5_readClauses, 5, (some (Jvm.ClassFile.FieldType.boolean)), 1, 0, []),
  (5, yX5_readNames, cX5_readNames, 4, (some (Jvm.ClassFile.FieldType.int)), 1, 0, []),
  (6, yX6_init, cX6_init, 1, none, 2, 0, []),
  (6, yX6_begin, cX6_begin, 5, none, 1, 4, []),
  (6, yX6_draw, cX6_draw, 3, (some (Jvm.ClassFile.FieldType.int)), 1, 1, []),
  (7, yX7_init, cX7_init, 1, none, 2, 0, []),
  (7, yX7_add, cX7_add, 2, (some (Jvm.ClassFile.FieldType.boolean)), 1, 1, []),
  (7, yX7_clear, cX7_clear, 1, none, 1, 0, []),
  (7, yX7_at, cX7_at, 2, (some (Jvm.ClassFile.FieldType.int)), 1, 1, []),
  (7, yX7_has, cX7_has, 3, (some (Jvm.ClassFile.FieldType.boolean)), 1, 1, []),
  (7, yX7_isSame, cX7_isSame, 3, (some (Jvm.ClassFile.FieldType.boolean)), 1, 1, []),
  (7, yX7_take, cX7_take, 3, none, 1, 1, []),
  (8, yX8_init, cX8_init, 1, none, 2, 0, []),
  (8, yX8_shapeOf, cX8_shapeOf, 2, (some (Jvm.ClassFile.FieldType.int)), 1, 1, []),
  (8, yX8_isNumber, cX8_isNumber, 2, (some (Jvm.ClassFile.FieldType.boolean)), 1, 1, []),
  (8, yX8_itemCount, cX8_itemCount, 2, (some (Jvm.ClassFile.FieldType.int)), 1, 1, []),
  (8, yX8_itemOf, cX8_itemOf, 4, (some (Jvm.ClassFile.FieldType.int)), 1, 2, []),
  (8, yX8_clear, cX8_clear, 2, none, 1, 0, []),
  (8, yX8_putNumber, cX8_putNumber, 3, none, 1, 2, []),
  (8, yX8_putRow, cX8_putRow, 2, none, 1, 1, []),
  (8, yX8_addItem, cX8_addItem, 4, none, 1, 2, []),
  (8, yX8_copy, cX8_copy, 5, none, 1, 3, []),
  (8, yX8_takeAll, cX8_takeAll, 2, none, 1, 1, []),
  (8, yX8_areSame, cX8_areSame, 5, (some (Jvm.ClassFile.FieldType.boolean)), 1, 1, []),
  (8, yX8_areNumbersAlone, cX8_areNumbersAlone, 2, (some (Jvm.ClassFile.FieldType.boolean)), 1, 0, []),
  (8, yX8_answers, cX8_answers, 3, (some (Jvm.ClassFile.FieldType.boolean)), 1, 2, []),
  (8, yX8_answer, cX8_answer, 3, (some (Jvm.ClassFile.FieldType.int)), 1, 2, []),
  (9, yX9_init, cX9_init, 1, none, 2, 0, []),
  (9, yX9_weave, cX9_weave, 5, none, 1, 3, []),
  (9, yX9_noteName, cX9_noteName, 5, none, 1, 3, []),
  (9, yX9_needsOf, cX9_needsOf, 5, (some (Jvm.ClassFile.FieldType.int)), 1, 2, []),
  (9, yX9_giversOf, cX9_giversOf, 5, (some (Jvm.ClassFile.FieldType.int)), 1, 2, []),
  (9, yX9_lastGiver, cX9_lastGiver, 3, (some (Jvm.ClassFile.FieldType.int)), 1, 1, []),
  (9, yX9_reachOver, cX9_reachOver, 3, none, 1, 0, []),
  (9, yX9_ringOf, cX9_ringOf, 5, (some (Jvm.ClassFile.FieldType.int)), 1, 1, []),
  (9, yX9_putInOrder, cX9_putInOrder, 4, none, 1, 0, []),
  (9, yX9_lowestNext, cX9_lowestNext, 6, (some (Jvm.ClassFile.FieldType.int)), 1, 1, []),
  (10, yX10_init, cX10_init, 1, none, 2, 0, []),
  (10, yX10_exists, cX10_exists, 2, (some (Jvm.ClassFile.FieldType.boolean)), 1, 1, []),
  (10, yX10_add, cX10_add, 5, (some (Jvm.ClassFile.FieldType.int)), 1, 3, []),
  (10, yX10_tie, cX10_tie, 3, (some (Jvm.ClassFile.FieldType.boolean)), 1, 2, []),
  (10, yX10_held, cX10_held, 3, (some (Jvm.ClassFile.FieldType.int)), 1, 2, []),
  (10, yX10_set, cX10_set, 3, none, 1, 2, []),
  (10, yX10_shownBy, cX10_shownBy, 2, (some (Jvm.ClassFile.FieldType.int)), 1, 1, []),
  (10, yX10_showTurned, cX10_showTurned, 3, none, 1, 0, []),
  (10, yX10_spread, cX10_spread, 7, (some (Jvm.ClassFile.FieldType.int)), 1, 2, []),
  (11, yX11_init, cX11_init, 2, none, 2, 0, []),
  (11, yX11_type, cX11_type, 3, (some (Jvm.ClassFile.FieldType.int)), 1, 2, []),
  (11, yX11_fault, cX11_fault, 3, (some (Jvm.ClassFile.FieldType.int)), 1, 2, []),
  (11, yX11_cell, cX11_cell, 4, (some (Jvm.ClassFile.FieldType.int)), 1, 2, []),
  (11, yX11_edit, cX11_edit, 5, (some (Jvm.ClassFile.FieldType.int)), 1, 3, []),
  (11, yX11_mode, cX11_mode, 3, (some (Jvm.ClassFile.FieldType.int)), 1, 1, []),
  (11, yX11_widget, cX11_widget, 5, (some (Jvm.ClassFile.FieldType.int)), 1, 3, []),
  (11, yX11_bind, cX11_bind, 3, (some (Jvm.ClassFile.FieldType.boolean)), 1, 2, []),
  (11, yX11_turn, cX11_turn, 3, (some (Jvm.ClassFile.FieldType.int)), 1, 2, []),
  (11, yX11_tick, cX11_tick, 1, (some (Jvm.ClassFile.FieldType.int)), 1, 0, []),
  (11, yX11_shows, cX11_shows, 2, (some (Jvm.ClassFile.FieldType.int)), 1, 1, []),
  (11, yX11_run, cX11_run, 2, (some (Jvm.ClassFile.FieldType.int)), 1, 1, []),
  (11, yX11_checkpoint, cX11_checkpoint, 4, (some (Jvm.ClassFile.FieldType.int)), 1, 0, []),
  (11, yX11_kill, cX11_kill, 2, (some (Jvm.ClassFile.FieldType.int)), 1, 0, []),
  (11, yX11_restore, cX11_restore, 5, (some (Jvm.ClassFile.FieldType.int)), 1, 0, []),
  (11, yX11_state, cX11_state, 2, (some (Jvm.ClassFile.FieldType.int)), 1, 1, []),
  (11, yX11_needs, cX11_needs, 2, (some (Jvm.ClassFile.FieldType.int)), 1, 1, []),
  (11, yX11_ring, cX11_ring, 2, (some (Jvm.ClassFile.FieldType.int)), 1, 1, []),
  (11, yX11_result, cX11_result, 3, (some (Jvm.ClassFile.FieldType.int)), 1, 2, []),
  (11, yX11_resultAnew, cX11_resultAnew, 4, (some (Jvm.ClassFile.FieldType.int)), 1, 2, []),
  (11, yX11_value, cX11_value, 5, (some (Jvm.ClassFile.FieldType.int)), 1, 2, []),
  (11, yX11_error, cX11_error, 2, (some (Jvm.ClassFile.FieldType.int)), 1, 1, []),
  (11, yX11_order, cX11_order, 2, (some (Jvm.ClassFile.FieldType.int)), 1, 1, []),
  (11, yX11_runs, cX11_runs, 1, (some (Jvm.ClassFile.FieldType.int)), 1, 0, []),
  (11, yX11_found, cX11_found, 1, (some (Jvm.ClassFile.FieldType.int)), 1, 0, []),
  (11, yX11_isHand, cX11_isHand, 1, (some (Jvm.ClassFile.FieldType.boolean)), 0, 1, []),
  (11, yX11_isLanguage, cX11_isLanguage, 1, (some (Jvm.ClassFile.FieldType.boolean)), 0, 1, []),
  (11, yX11_isName, cX11_isName, 1, (some (Jvm.ClassFile.FieldType.boolean)), 0, 1, []),
  (11, yX11_isDigit, cX11_isDigit, 1, (some (Jvm.ClassFile.FieldType.boolean)), 0, 1, []),
  (11, yX11_isCell, cX11_isCell, 2, (some (Jvm.ClassFile.FieldType.boolean)), 1, 1, []),
  (11, yX11_has, cX11_has, 2, (some (Jvm.ClassFile.FieldType.boolean)), 0, 2, []),
  (11, yX11_greatest, cX11_greatest, 2, (some (Jvm.ClassFile.FieldType.int)), 0, 1, []),
  (11, yX11_takeTyped, cX11_takeTyped, 4, (some (Jvm.ClassFile.FieldType.boolean)), 1, 3, []),
  (11, yX11_weaveAnew, cX11_weaveAnew, 1, none, 1, 0, []),
  (11, yX11_runIfAtOnce, cX11_runIfAtOnce, 1, none, 1, 0, []),
  (11, yX11_stateOf, cX11_stateOf, 2, (some (Jvm.ClassFile.FieldType.int)), 1, 1, []),
  (11, yX11_judge, cX11_judge, 3, none, 1, 0, []),
  (11, yX11_judgeByNeeds, cX11_judgeByNeeds, 5, (some (Jvm.ClassFile.FieldType.int)), 1, 1, []),
  (11, yX11_isRunWhenAsked, cX11_isRunWhenAsked, 2, (some (Jvm.ClassFile.FieldType.boolean)), 1, 1, []),
  (11, yX11_lowestReady, cX11_lowestReady, 3, (some (Jvm.ClassFile.FieldType.int)), 1, 1, []),
  (11, yX11_areNeedsFresh, cX11_areNeedsFresh, 3, (some (Jvm.ClassFile.FieldType.boolean)), 1, 1, []),
  (11, yX11_runStale, cX11_runStale, 4, none, 1, 1, []),
  (11, yX11_runWithNeeds, cX11_runWithNeeds, 2, (some (Jvm.ClassFile.FieldType.int)), 1, 1, []),
  (11, yX11_runOne, cX11_runOne, 5, (some (Jvm.ClassFile.FieldType.int)), 1, 2, []),
  (11, yX11_keptFor, cX11_keptFor, 4, (some ((Jvm.ClassFile.FieldType.object "NotebookWeir$Kept"))), 1, 1, []),
  (11, yX11_gather, cX11_gather, 6, none, 1, 2, []),
  (11, yX11_runPlain, cX11_runPlain, 5, (some (Jvm.ClassFile.FieldType.int)), 1, 0, []),
  (11, yX11_hasValue, cX11_hasValue, 4, (some (Jvm.ClassFile.FieldType.boolean)), 1, 3, []),
  (12, yX12_init, cX12_init, 1, none, 2, 0, []),
  (12, yX12_thrown, cX12_thrown, 1, (some (Jvm.ClassFile.FieldType.int)), 1, 0, []),
  (12, yX12_goes, cX12_goes, 4, (some (Jvm.ClassFile.FieldType.boolean)), 1, 3, []),
  (12, yX12_isBetween, cX12_isBetween, 3, (some (Jvm.ClassFile.FieldType.boolean)), 0, 3, []),
  (12, yX12_isLetter, cX12_isLetter, 1, (some (Jvm.ClassFile.FieldType.boolean)), 0, 1, []),
  (12, yX12_isDigit, cX12_isDigit, 1, (some (Jvm.ClassFile.FieldType.boolean)), 0, 1, []),
  (12, yX12_sign, cX12_sign, 1, (some (Jvm.ClassFile.FieldType.int)), 1, 0, []),
  (12, yX12_isPrefix, cX12_isPrefix, 1, (some (Jvm.ClassFile.FieldType.boolean)), 1, 0, []),
  (12, yX12_digits, cX12_digits, 2, (some (Jvm.ClassFile.FieldType.boolean)), 1, 0, []),
  (12, yX12_isExpression, cX12_isExpression, 4, (some (Jvm.ClassFile.FieldType.boolean)), 1, 0, []),
  (12, yX12_areExpressions, cX12_areExpressions, 2, (some (Jvm.ClassFile.FieldType.boolean)), 1, 0, []),
  (12, yX12_isOver, cX12_isOver, 2, (some (Jvm.ClassFile.FieldType.boolean)), 1, 1, []),
  (12, yX12_isQuery, cX12_isQuery, 1, (some (Jvm.ClassFile.FieldType.boolean)), 1, 0, []),
  (12, yX12_areRules, cX12_areRules, 3, (some (Jvm.ClassFile.FieldType.boolean)), 1, 0, []),
  (12, yX12_faultOf, cX12_faultOf, 4, (some (Jvm.ClassFile.FieldType.int)), 1, 2, []),
  (12, yX12_type, cX12_type, 4, (some (Jvm.ClassFile.FieldType.int)), 1, 2, []),
  (12, yX12_fault, cX12_fault, 3, (some (Jvm.ClassFile.FieldType.int)), 1, 2, []),
  (12, yX12_loads, cX12_loads, 3, none, 1, 1, []),
  (12, yX12_bit, cX12_bit, 1, (some (Jvm.ClassFile.FieldType.int)), 0, 1, []),
  (12, yX12_reads, cX12_reads, 4, none, 1, 1, []),
  (12, yX12_readsStatements, cX12_readsStatements, 7, none, 1, 1, []),
  (12, yX12_takes, cX12_takes, 4, none, 1, 2, []),
  (12, yX12_cell, cX12_cell, 5, (some (Jvm.ClassFile.FieldType.int)), 1, 2, []),
  (12, yX12_isCell, cX12_isCell, 2, (some (Jvm.ClassFile.FieldType.boolean)), 1, 1, []),
  (12, yX12_edit, cX12_edit, 6, (some (Jvm.ClassFile.FieldType.int)), 1, 3, []),
  (12, yX12_mode, cX12_mode, 3, (some (Jvm.ClassFile.FieldType.int)), 1, 1, []),
  (12, yX12_widgetOf, cX12_widgetOf, 4, (some (Jvm.ClassFile.FieldType.int)), 1, 1, []),
  (12, yX12_widget, cX12_widget, 6, (some (Jvm.ClassFile.FieldType.int)), 1, 3, []),
  (12, yX12_isWidget, cX12_isWidget, 2, (some (Jvm.ClassFile.FieldType.boolean)), 1, 1, []),
  (12, yX12_bind, cX12_bind, 4, (some (Jvm.ClassFile.FieldType.boolean)), 1, 2, []),
  (12, yX12_turn, cX12_turn, 4, (some (Jvm.ClassFile.FieldType.int)), 1, 2, []),
  (12, yX12_held, cX12_held, 3, (some (Jvm.ClassFile.FieldType.int)), 1, 2, []),
  (12, yX12_spreads, cX12_spreads, 7, none, 1, 1, []),
  (12, yX12_tick, cX12_tick, 2, (some (Jvm.ClassFile.FieldType.int)), 1, 0, []),
  (12, yX12_shows, cX12_shows, 2, (some (Jvm.ClassFile.FieldType.int)), 1, 1, []),
  (12, yX12_definers, cX12_definers, 4, (some (Jvm.ClassFile.FieldType.int)), 1, 1, []),
  (12, yX12_changer, cX12_changer, 5, (some (Jvm.ClassFile.FieldType.int)), 1, 2, []),
  (12, yX12_definer, cX12_definer, 5, (some (Jvm.ClassFile.FieldType.int)), 1, 1, []),
  (12, yX12_giver, cX12_giver, 5, (some (Jvm.ClassFile.FieldType.int)), 1, 2, []),
  (12, yX12_needsOf, cX12_needsOf, 6, (some (Jvm.ClassFile.FieldType.int)), 1, 1, []),
  (12, yX12_isTwice, cX12_isTwice, 4, (some (Jvm.ClassFile.FieldType.boolean)), 1, 1, []),
  (12, yX12_looksAtNeeds, cX12_looksAtNeeds, 3, none, 1, 0, []),
  (12, yX12_ringOf, cX12_ringOf, 4, (some (Jvm.ClassFile.FieldType.int)), 1, 1, []),
  (12, yX12_own, cX12_own, 4, (some (Jvm.ClassFile.FieldType.int)), 1, 1, []),
  (12, yX12_looks, cX12_looks, 8, none, 1, 0, []),
  (12, yX12_areFresh, cX12_areFresh, 4, (some (Jvm.ClassFile.FieldType.boolean)), 1, 1, []),
  (12, yX12_nextOf, cX12_nextOf, 4, (some (Jvm.ClassFile.FieldType.int)), 1, 1, []),
  (12, yX12_runsAll, cX12_runsAll, 3, none, 1, 1, []),
  (12, yX12_atOnce, cX12_atOnce, 1, none, 1, 0, []),
  (12, yX12_copies, cX12_copies, 6, none, 1, 4, []),
  (12, yX12_fetches, cX12_fetches, 4, (some (Jvm.ClassFile.FieldType.boolean)), 1, 2, []),
  (12, yX12_fails, cX12_fails, 3, none, 1, 2, []),
  (12, yX12_pushes, cX12_pushes, 2, none, 1, 1, []),
  (12, yX12_pushesName, cX12_pushesName, 2, none, 1, 1, []),
  (12, yX12_draws1, cX12_draws1, 4, (some (Jvm.ClassFile.FieldType.int)), 1, 1, []),
  (12, yX12_isNumber, cX12_isNumber, 2, (some (Jvm.ClassFile.FieldType.boolean)), 1, 1, []),
  (12, yX12_does1, cX12_does1, 4, none, 1, 0, []),
  (12, yX12_strength, cX12_strength, 1, (some (Jvm.ClassFile.FieldType.int)), 0, 1, []),
  (12, yX12_doesDown, cX12_doesDown, 2, none, 1, 1, []),
  (12, yX12_opens, cX12_opens, 2, none, 1, 1, []),
  (12, yX12_part, cX12_part, 3, none, 1, 1, []),
  (12, yX12_item, cX12_item, 3, none, 1, 0, []),
  (12, yX12_closes, cX12_closes, 4, none, 1, 1, []),
  (12, yX12_reckons, cX12_reckons, 3, none, 1, 0, []),
  (12, yX12_runsStatements, cX12_runsStatements, 5, none, 1, 1, []),
  (12, yX12_changesName, cX12_changesName, 2, none, 1, 1, []),
  (12, yX12_isSo, cX12_isSo, 3, (some (Jvm.ClassFile.FieldType.boolean)), 0, 3, []),
  (12, yX12_runsQuery, cX12_runsQuery, 9, none, 1, 1, []),
  (12, yX12_holds, cX12_holds, 3, (some (Jvm.ClassFile.FieldType.boolean)), 1, 1, []),
  (12, yX12_runsRules, cX12_runsRules, 9, none, 1, 1, []),
  (12, yX12_hasSameText, cX12_hasSameText, 7, (some (Jvm.ClassFile.FieldType.boolean)), 1, 4, []),
  (12, yX12_keepsText, cX12_keepsText, 5, none, 1, 3, []),
  (12, yX12_evaluates, cX12_evaluates, 8, (some (Jvm.ClassFile.FieldType.boolean)), 1, 4, []),
  (12, yX12_marksRun, cX12_marksRun, 4, none, 1, 2, []),
  (12, yX12_hasSameValues, cX12_hasSameValues, 7, (some (Jvm.ClassFile.FieldType.boolean)), 1, 3, []),
  (12, yX12_keepsValues, cX12_keepsValues, 5, none, 1, 3, []),
  (12, yX12_keptOf, cX12_keptOf, 5, (some (Jvm.ClassFile.FieldType.int)), 1, 1, []),
  (12, yX12_moves, cX12_moves, 5, none, 0, 4, []),
  (12, yX12_keepsRun, cX12_keepsRun, 4, none, 1, 1, []),
  (12, yX12_runsOne, cX12_runsOne, 4, none, 1, 2, []),
  (12, yX12_does, cX12_does, 4, (some (Jvm.ClassFile.FieldType.int)), 1, 1, []),
  (12, yX12_runsWith, cX12_runsWith, 2, (some (Jvm.ClassFile.FieldType.int)), 1, 1, []),
  (12, yX12_run, cX12_run, 3, (some (Jvm.ClassFile.FieldType.int)), 1, 1, []),
  (12, yX12_checkpoint, cX12_checkpoint, 5, (some (Jvm.ClassFile.FieldType.int)), 1, 0, []),
  (12, yX12_kill, cX12_kill, 3, (some (Jvm.ClassFile.FieldType.int)), 1, 0, []),
  (12, yX12_isInCheckpoint, cX12_isInCheckpoint, 2, (some (Jvm.ClassFile.FieldType.boolean)), 1, 1, []),
  (12, yX12_restores, cX12_restores, 3, (some (Jvm.ClassFile.FieldType.int)), 1, 1, []),
  (12, yX12_restore, cX12_restore, 6, (some (Jvm.ClassFile.FieldType.int)), 1, 0, []),
  (12, yX12_state, cX12_state, 2, (some (Jvm.ClassFile.FieldType.int)), 1, 1, []),
  (12, yX12_needs, cX12_needs, 2, (some (Jvm.ClassFile.FieldType.int)), 1, 1, []),
  (12, yX12_ring, cX12_ring, 2, (some (Jvm.ClassFile.FieldType.int)), 1, 1, []),
  (12, yX12_asks, cX12_asks, 2, none, 1, 1, []),
  (12, yX12_hasItem, cX12_hasItem, 3, (some (Jvm.ClassFile.FieldType.boolean)), 0, 3, []),
  (12, yX12_itemOf, cX12_itemOf, 3, (some (Jvm.ClassFile.FieldType.int)), 0, 3, []),
  (12, yX12_result, cX12_result, 5, (some (Jvm.ClassFile.FieldType.int)), 1, 2, []),
  (12, yX12_orders, cX12_orders, 7, none, 1, 0, []),
  (12, yX12_runsPlain, cX12_runsPlain, 4, none, 1, 0, []),
  (12, yX12_resultAnew, cX12_resultAnew, 5, (some (Jvm.ClassFile.FieldType.int)), 1, 2, []),
  (12, yX12_value, cX12_value, 6, (some (Jvm.ClassFile.FieldType.int)), 1, 2, []),
  (12, yX12_error, cX12_error, 2, (some (Jvm.ClassFile.FieldType.int)), 1, 1, []),
  (12, yX12_order, cX12_order, 2, (some (Jvm.ClassFile.FieldType.int)), 1, 1, []),
  (12, yX12_runs, cX12_runs, 1, (some (Jvm.ClassFile.FieldType.int)), 1, 0, []),
  (12, yX12_found, cX12_found, 1, (some (Jvm.ClassFile.FieldType.int)), 1, 0, []),
  (13, yL_type, cL_type, 5, (some (Jvm.ClassFile.FieldType.int)), 0, 4, [(0, 10, 13, 13), (0, 10, 17, 15)]),
  (13, yL_fault, cL_fault, 5, (some (Jvm.ClassFile.FieldType.int)), 0, 4, [(0, 10, 13, 13)]),
  (13, yL_cell, cL_cell, 5, (some (Jvm.ClassFile.FieldType.int)), 0, 4, [(0, 10, 13, 13), (0, 10, 17, 15)]),
  (13, yL_edit, cL_edit, 6, (some (Jvm.ClassFile.FieldType.int)), 0, 5, [(0, 12, 15, 28), (0, 12, 19, 13), (0, 12, 23, 15)]),
  (13, yL_mode, cL_mode, 4, (some (Jvm.ClassFile.FieldType.int)), 0, 3, [(0, 9, 12, 13)]),
  (13, yL_widget, cL_widget, 6, (some (Jvm.ClassFile.FieldType.int)), 0, 5, [(0, 12, 15, 13), (0, 12, 19, 15)]),
  (13, yL_bind, cL_bind, 5, (some (Jvm.ClassFile.FieldType.int)), 0, 4, [(0, 17, 20, 28), (0, 17, 24, 13)]),
  (13, yL_turn, cL_turn, 5, (some (Jvm.ClassFile.FieldType.int)), 0, 4, [(0, 10, 13, 28), (0, 10, 17, 13)]),
  (13, yL_shows, cL_shows, 4, (some (Jvm.ClassFile.FieldType.int)), 0, 3, [(0, 9, 12, 28)]),
  (13, yL_run, cL_run, 4, (some (Jvm.ClassFile.FieldType.int)), 0, 3, [(0, 9, 12, 28), (0, 9, 15, 15)]),
  (13, yL_restore, cL_restore, 3, (some (Jvm.ClassFile.FieldType.int)), 0, 2, [(0, 8, 11, 15)]),
  (13, yL_state, cL_state, 4, (some (Jvm.ClassFile.FieldType.int)), 0, 3, [(0, 9, 12, 28)]),
  (13, yL_needs, cL_needs, 4, (some (Jvm.ClassFile.FieldType.int)), 0, 3, [(0, 9, 12, 28)]),
  (13, yL_ring, cL_ring, 4, (some (Jvm.ClassFile.FieldType.int)), 0, 3, [(0, 9, 12, 28)]),
  (13, yL_result, cL_result, 5, (some (Jvm.ClassFile.FieldType.int)), 0, 4, [(0, 10, 13, 28), (0, 10, 17, 15)]),
  (13, yL_resultAnew, cL_resultAnew, 5, (some (Jvm.ClassFile.FieldType.int)), 0, 4, [(0, 10, 13, 28), (0, 10, 17, 15)]),
  (13, yL_value, cL_value, 5, (some (Jvm.ClassFile.FieldType.int)), 0, 4, [(0, 10, 13, 13), (0, 10, 17, 15)]),
  (13, yL_error, cL_error, 4, (some (Jvm.ClassFile.FieldType.int)), 0, 3, [(0, 9, 12, 28)]),
  (13, yL_order, cL_order, 4, (some (Jvm.ClassFile.FieldType.int)), 0, 3, [(0, 9, 12, 28)]),
  (13, yL_law, cL_law, 7, (some (Jvm.ClassFile.FieldType.boolean)), 0, 1, []),
  (14, yJ6_bitCount_0f7a4, cJ6_bitCount_0f7a4, 1, (some (Jvm.ClassFile.FieldType.int)), 0, 1, [])]
def j_d (k : Nat) : jD := jMD.getD k (0, ⟨"", "", ""⟩, ByteArray.empty, 0, none, 3, 0, [])
def j_y (k : Nat) : MethodName := (j_d k).2.1
def j_ml (o : Nat) : List (Nat × Nat × Bool) := match o with
  | 0 => [(11, 55, true), (20, 7, true), (27, 62, true), (37, 11, true), (44, 12, true), (57, 59, false), (65, 1, false), (69, 14, false), (76, 13, false), (96, 93, false), (102, 126, true)]
  | 2 => [(11, 55, true)]
  | 3 => [(9, 55, true), (18, 62, true), (26, 61, false), (30, 72, false), (34, 60, false), (38, 73, false)]
  | 4 => [(11, 62, true), (23, 52, true), (28, 72, false), (44, 30, false), (58, 18, false), (65, 67, false), (74, 126, true), (78, 71, false), (82, 19, false), (86, 20, false), (89, 54, false), (93, 22, false), (96, 24, false), (99, 25, false), (103, 64, false), (107, 26, false), (110, 63, false), (113, 21, false), (116, 23, false), (119, 29, false), (122, 27, false), (125, 68, false), (129, 66, false), (132, 65, false), (135, 69, false), (139, 70, false), (142, 28, false), (154, 31, false), (157, 32, false), (160, 33, false), (164, 267, false)]
  | 5 => [(11, 55, true), (20, 7, true), (25, 8, false), (39, 48, false), (43, 50, false), (46, 39, false), (52, 58, false), (56, 123, true), (60, 124, true), (69, 40, false), (72, 36, false), (76, 42, false), (79, 10, false), (83, 37, false), (90, 41, false), (93, 126, true), (103, 43, false), (106, 44, false), (109, 45, false), (112, 47, false), (115, 46, false), (118, 38, false), (121, 49, false), (124, 51, false)]
  | 6 => [(17, 11, true), (26, 60, false), (45, 61, false)]
  | 8 => [(24, 64, false), (28, 65, false), (32, 66, false), (36, 63, false)]
  | 9 => [(40, 79, false), (55, 80, false), (59, 83, false), (62, 85, false), (68, 126, true), (81, 267, false), (87, 81, false), (90, 127, true), (99, 86, false)]
  | 10 => [(34, 88, false), (38, 126, true), (54, 95, false), (57, 91, false)]
  | 11 => [(27, 87, true), (34, 77, true), (41, 34, true), (48, 7, true), (55, 15, true), (62, 52, true), (69, 62, true), (78, 55, true), (79, 0, false), (80, 121, false), (87, 56, false), (97, 122, false), (100, 35, false), (107, 128, false), (111, 129, false), (114, 130, false), (117, 125, false), (132, 123, false), (135, 89, false), (138, 88, false), (141, 90, false), (145, 91, false), (149, 92, false), (163, 94, false), (166, 131, false), (170, 138, false), (173, 132, false), (180, 59, false), (186, 74, false), (193, 141, false), (201, 13, false), (213, 6, false), (216, 267, false), (224, 135, false), (227, 139, false), (234, 84, false), (237, 134, false), (240, 75, false), (243, 76, false), (246, 142, false), (250, 126, false), (255, 82, false), (258, 143, false), (262, 93, false), (280, 61, false), (283, 9, false), (289, 57, false), (292, 78, false), (297, 137, false), (307, 133, false), (313, 5, false), (317, 136, false), (323, 140, false), (327, 2, false), (332, 72, false), (340, 53, false), (344, 16, false), (349, 17, false), (353, 3, false), (359, 4, false), (363, 14, false), (370, 67, false), (371, 81, false), (374, 127, false), (377, 71, false), (381, 68, false)]
  | 12 => [(186, 147, false), (196, 148, false), (200, 150, false), (204, 149, false), (210, 152, false), (214, 151, false), (217, 153, false), (220, 155, false), (224, 154, false), (227, 156, false), (230, 157, false), (233, 146, false), (237, 158, false), (241, 161, false), (245, 162, false), (249, 164, false), (252, 163, false), (258, 165, false), (266, 192, false), (269, 167, false), (278, 170, false), (281, 172, false), (284, 175, false), (290, 176, false), (293, 179, false), (296, 180, false), (299, 181, false), (302, 182, false), (305, 183, false), (309, 185, false), (312, 184, false), (315, 186, false), (318, 187, false), (321, 189, false), (324, 188, false), (327, 190, false), (330, 224, false), (333, 191, false), (339, 193, false), (358, 194, false), (365, 195, false), (375, 199, false), (378, 201, false), (381, 200, false), (384, 196, false), (387, 197, false), (390, 198, false), (393, 203, false), (396, 202, false), (399, 204, false), (402, 205, false), (405, 206, false), (408, 207, false), (411, 209, false), (414, 210, false), (417, 212, false), (420, 214, false), (424, 211, false), (428, 213, false), (431, 208, false), (437, 218, false), (441, 220, false), (444, 221, false), (448, 215, false), (452, 219, false), (455, 216, false), (462, 217, false), (465, 222, false), (468, 223, false), (474, 225, false), (483, 229, false), (486, 230, false), (489, 235, false), (492, 236, false), (496, 237, false), (503, 239, false), (506, 240, false)]
  | 13 => [(7, 97, false), (17, 98, false), (21, 99, false), (24, 100, false), (30, 101, false), (34, 102, false), (38, 103, false), (42, 104, false), (45, 106, false), (48, 107, false), (51, 110, false), (55, 111, false), (58, 112, false), (61, 113, false), (64, 114, false), (67, 115, false), (70, 116, false), (74, 117, false), (77, 118, false), (80, 96, false), (83, 144, false), (84, 247, false), (89, 159, false), (90, 145, false), (93, 248, false), (96, 160, false), (97, 249, false), (99, 166, false), (100, 250, false), (103, 168, false), (104, 251, false), (107, 169, false), (108, 252, false), (111, 171, false), (112, 253, false), (114, 173, false), (115, 254, false), (117, 174, false), (118, 105, false), (121, 177, false), (122, 255, false), (124, 178, false), (125, 256, false), (127, 226, false), (128, 108, false), (131, 227, false), (132, 109, false), (135, 228, false), (136, 257, false), (139, 231, false), (140, 258, false), (142, 232, false), (143, 259, false), (145, 233, false), (146, 260, false), (148, 234, false), (149, 261, false), (151, 238, false), (152, 262, false), (154, 241, false), (155, 263, false), (158, 242, false), (159, 264, false), (161, 243, false), (162, 265, false), (164, 244, false), (165, 119, false), (168, 245, false), (169, 120, false), (172, 246, false)]
  | _ => []
def j_mlw (o : Nat) (r : Nat × Nat × Bool) : Cond := if r.2.2 = true then .methodLinkNest (j_own o) r.1 (j_y r.2.1) "NotebookWeir" else .methodLink (j_own o) r.1 (j_y r.2.1)
set_option maxRecDepth 100000 in
theorem j_ml_0 : ∀ r ∈ j_ml 0, j_mlw 0 r ∈ lw_tbl := by
  have h : (j_ml 0).map (j_mlw 0) = ([413, 415, 417, 419, 422, 693, 689, 697, 820, 610, 609] : List Nat).filterMap (fun i => lw_tbl[i]?) := by rfl
  intro r hr
  have h1 : j_mlw 0 r ∈ (j_ml 0).map (j_mlw 0) := List.mem_map.mpr ⟨r, hr, rfl⟩
  rw [h] at h1
  obtain ⟨i, -, hi⟩ := List.mem_filterMap.mp h1
  exact List.mem_of_getElem? hi
set_option maxRecDepth 100000 in
theorem j_ml_2 : ∀ r ∈ j_ml 2, j_mlw 2 r ∈ lw_tbl := by
  have h : (j_ml 2).map (j_mlw 2) = ([352] : List Nat).filterMap (fun i => lw_tbl[i]?) := by rfl
  intro r hr
  have h1 : j_mlw 2 r ∈ (j_ml 2).map (j_mlw 2) := List.mem_map.mpr ⟨r, hr, rfl⟩
  rw [h] at h1
  obtain ⟨i, -, hi⟩ := List.mem_filterMap.mp h1
  exact List.mem_of_getElem? hi
set_option maxRecDepth 100000 in
theorem j_ml_3 : ∀ r ∈ j_ml 3, j_mlw 3 r ∈ lw_tbl := by
  have h : (j_ml 3).map (j_mlw 3) = ([427, 429, 824, 825, 665, 669] : List Nat).filterMap (fun i => lw_tbl[i]?) := by rfl
  intro r hr
  have h1 : j_mlw 3 r ∈ (j_ml 3).map (j_mlw 3) := List.mem_map.mpr ⟨r, hr, rfl⟩
  rw [h] at h1
  obtain ⟨i, -, hi⟩ := List.mem_filterMap.mp h1
  exact List.mem_of_getElem? hi
set_option maxRecDepth 100000 in
theorem j_ml_4 : ∀ r ∈ j_ml 4, j_mlw 4 r ∈ lw_tbl := by
  have h : (j_ml 4).map (j_mlw 4) = ([328, 341, 718, 719, 749, 815, 727, 761, 753, 757, 762, 767, 771, 775, 736, 779, 728, 791, 795, 799, 804, 742, 737, 738, 783, 787, 808, 723, 732, 739, 743] : List Nat).filterMap (fun i => lw_tbl[i]?) := by rfl
  intro r hr
  have h1 : j_mlw 4 r ∈ (j_ml 4).map (j_mlw 4) := List.mem_map.mpr ⟨r, hr, rfl⟩
  rw [h] at h1
  obtain ⟨i, -, hi⟩ := List.mem_filterMap.mp h1
  exact List.mem_of_getElem? hi
set_option maxRecDepth 100000 in
theorem j_ml_5 : ∀ r ∈ j_ml 5, j_mlw 5 r ∈ lw_tbl := by
  have h : (j_ml 5).map (j_mlw 5) = ([241, 257, 966, 970, 1005, 1013, 978, 982, 997, 1017, 985, 1021, 989, 974, 1046, 1045, 1025, 1029, 1033, 1037, 1041, 993, 1001, 1009] : List Nat).filterMap (fun i => lw_tbl[i]?) := by rfl
  intro r hr
  have h1 : j_mlw 5 r ∈ (j_ml 5).map (j_mlw 5) := List.mem_map.mpr ⟨r, hr, rfl⟩
  rw [h] at h1
  obtain ⟨i, -, hi⟩ := List.mem_filterMap.mp h1
  exact List.mem_of_getElem? hi
set_option maxRecDepth 100000 in
theorem j_ml_6 : ∀ r ∈ j_ml 6, j_mlw 6 r ∈ lw_tbl := by
  have h : (j_ml 6).map (j_mlw 6) = ([347, 709, 710] : List Nat).filterMap (fun i => lw_tbl[i]?) := by rfl
  intro r hr
  have h1 : j_mlw 6 r ∈ (j_ml 6).map (j_mlw 6) := List.mem_map.mpr ⟨r, hr, rfl⟩
  rw [h] at h1
  obtain ⟨i, -, hi⟩ := List.mem_filterMap.mp h1
  exact List.mem_of_getElem? hi
set_option maxRecDepth 100000 in
theorem j_ml_8 : ∀ r ∈ j_ml 8, j_mlw 8 r ∈ lw_tbl := by
  have h : (j_ml 8).map (j_mlw 8) = ([673, 677, 681, 1237] : List Nat).filterMap (fun i => lw_tbl[i]?) := by rfl
  intro r hr
  have h1 : j_mlw 8 r ∈ (j_ml 8).map (j_mlw 8) := List.mem_map.mpr ⟨r, hr, rfl⟩
  rw [h] at h1
  obtain ⟨i, -, hi⟩ := List.mem_filterMap.mp h1
  exact List.mem_of_getElem? hi
set_option maxRecDepth 100000 in
theorem j_ml_9 : ∀ r ∈ j_ml 9, j_mlw 9 r ∈ lw_tbl := by
  have h : (j_ml 9).map (j_mlw 9) = ([1080, 1085, 1090, 1094, 638, 1084, 1089, 640, 1098] : List Nat).filterMap (fun i => lw_tbl[i]?) := by rfl
  intro r hr
  have h1 : j_mlw 9 r ∈ (j_ml 9).map (j_mlw 9) := List.mem_map.mpr ⟨r, hr, rfl⟩
  rw [h] at h1
  obtain ⟨i, -, hi⟩ := List.mem_filterMap.mp h1
  exact List.mem_of_getElem? hi
set_option maxRecDepth 100000 in
theorem j_ml_10 : ∀ r ∈ j_ml 10, j_mlw 10 r ∈ lw_tbl := by
  have h : (j_ml 10).map (j_mlw 10) = ([577, 566, 569, 573] : List Nat).filterMap (fun i => lw_tbl[i]?) := by rfl
  intro r hr
  have h1 : j_mlw 10 r ∈ (j_ml 10).map (j_mlw 10) := List.mem_map.mpr ⟨r, hr, rfl⟩
  rw [h] at h1
  obtain ⟨i, -, hi⟩ := List.mem_filterMap.mp h1
  exact List.mem_of_getElem? hi
set_option maxRecDepth 100000 in
theorem j_ml_11 : ∀ r ∈ j_ml 11, j_mlw 11 r ∈ lw_tbl := by
  have h : (j_ml 11).map (j_mlw 11) = ([160, 195, 235, 319, 322, 403, 405, 406, 408, 867, 933, 959, 962, 1057, 1071, 587, 644, 1139, 1140, 1151, 1152, 1163, 1164, 562, 1182, 1186, 596, 835, 836, 626, 840, 845, 849, 614, 622, 1218, 1229, 1233, 1238, 1249, 600, 1260, 1264, 652, 1061, 1062, 1067, 1075, 592, 601, 605, 618, 657, 685, 698, 705, 714, 811, 816, 827, 661, 630, 634, 643, 648, 653] : List Nat).filterMap (fun i => lw_tbl[i]?) := by rfl
  intro r hr
  have h1 : j_mlw 11 r ∈ (j_ml 11).map (j_mlw 11) := List.mem_map.mpr ⟨r, hr, rfl⟩
  rw [h] at h1
  obtain ⟨i, -, hi⟩ := List.mem_filterMap.mp h1
  exact List.mem_of_getElem? hi
set_option maxRecDepth 100000 in
theorem j_ml_12 : ∀ r ∈ j_ml 12, j_mlw 12 r ∈ lw_tbl := by
  have h : (j_ml 12).map (j_mlw 12) = ([1541, 1564, 1571, 1575, 1578, 1560, 1567, 1586, 1556, 1582, 1590, 1544, 1552, 1606, 1610, 1613, 1602, 1598, 1617, 1808, 1654, 1824, 1840, 1836, 1650, 1642, 1646, 1638, 1634, 1630, 1658, 1662, 1666, 1674, 1626, 1670, 1678, 1622, 1698, 1694, 1714, 1762, 1766, 1773, 1741, 1745, 1749, 1754, 1769, 1737, 1758, 1777, 1733, 1781, 1718, 1725, 1686, 1710, 1721, 1729, 1690, 1682, 1797, 1785, 1800, 1706, 1789, 1793, 1702, 1852, 1872, 1868, 1892, 1896, 1899, 1910, 1906] : List Nat).filterMap (fun i => lw_tbl[i]?) := by rfl
  intro r hr
  have h1 : j_mlw 12 r ∈ (j_ml 12).map (j_mlw 12) := List.mem_map.mpr ⟨r, hr, rfl⟩
  rw [h] at h1
  obtain ⟨i, -, hi⟩ := List.mem_filterMap.mp h1
  exact List.mem_of_getElem? hi
set_option maxRecDepth 100000 in
theorem j_ml_13 : ∀ r ∈ j_ml 13, j_mlw 13 r ∈ lw_tbl := by
  have h : (j_ml 13).map (j_mlw 13) = ([863, 955, 1053, 1106, 1128, 1135, 1147, 1159, 1171, 1178, 1193, 1200, 1207, 1214, 1225, 1245, 1256, 1271, 1278, 148, 1284, 858, 1537, 1533, 952, 1548, 1050, 1594, 1102, 1804, 1125, 1812, 1132, 1816, 1144, 1820, 1156, 1828, 558, 1832, 1168, 1844, 1175, 1848, 831, 1856, 841, 1860, 1190, 1864, 1197, 1876, 1204, 1880, 1211, 1884, 1222, 1888, 1242, 1902, 1253, 1914, 1268, 1918, 1275, 1922, 850, 1926, 854, 1930] : List Nat).filterMap (fun i => lw_tbl[i]?) := by rfl
  intro r hr
  have h1 : j_mlw 13 r ∈ (j_ml 13).map (j_mlw 13) := List.mem_map.mpr ⟨r, hr, rfl⟩
  rw [h] at h1
  obtain ⟨i, -, hi⟩ := List.mem_filterMap.mp h1
  exact List.mem_of_getElem? hi
theorem j_ml_ok (o : Nat) : ∀ r ∈ j_ml o, j_mlw o r ∈ lw_tbl := by
  match o with
  | 0 => exact j_ml_0
  | 2 => exact j_ml_2
  | 3 => exact j_ml_3
  | 4 => exact j_ml_4
  | 5 => exact j_ml_5
  | 6 => exact j_ml_6
  | 8 => exact j_ml_8
  | 9 => exact j_ml_9
  | 10 => exact j_ml_10
  | 11 => exact j_ml_11
  | 12 => exact j_ml_12
  | 13 => exact j_ml_13
  | 1 => intro r hr; cases hr
  | 7 => intro r hr; cases hr
  | n + 14 => intro r hr; cases hr
def j_cw (d : jD) : Cond := match d.2.2.2.2.2.2.2 with
  | [] => .code d.2.1 d.2.2.1 d.2.2.2.1 d.2.2.2.2.1
  | t => .codeWith d.2.1 d.2.2.1 d.2.2.2.1 d.2.2.2.2.1 t
def j_dw (d : jD) : List Cond := j_cw d :: (if d.2.2.2.2.2.1 = 0 then [.static d.2.1] else if d.2.2.2.2.2.1 = 1 then [.instanceMethod d.2.1, .selects d.2.1.cls d.2.1 d.2.1] else [.instanceMethod d.2.1])
set_option maxRecDepth 100000 in
theorem j_dw_0 : j_dw (j_d 0) = ([410, 409] : List Nat).filterMap (fun i => lw_tbl[i]?) := by rfl
set_option maxRecDepth 100000 in
theorem j_dw_1 : j_dw (j_d 1) = ([692, 691, 11] : List Nat).filterMap (fun i => lw_tbl[i]?) := by rfl
set_option maxRecDepth 100000 in
theorem j_dw_2 : j_dw (j_d 2) = ([688, 686, 687] : List Nat).filterMap (fun i => lw_tbl[i]?) := by rfl
set_option maxRecDepth 100000 in
theorem j_dw_3 : j_dw (j_d 3) = ([819, 817, 818] : List Nat).filterMap (fun i => lw_tbl[i]?) := by rfl
set_option maxRecDepth 100000 in
theorem j_dw_4 : j_dw (j_d 4) = ([830, 828, 829] : List Nat).filterMap (fun i => lw_tbl[i]?) := by rfl
set_option maxRecDepth 100000 in
theorem j_dw_5 : j_dw (j_d 5) = ([608, 606, 607] : List Nat).filterMap (fun i => lw_tbl[i]?) := by rfl
set_option maxRecDepth 100000 in
theorem j_dw_6 : j_dw (j_d 6) = ([848, 846, 847] : List Nat).filterMap (fun i => lw_tbl[i]?) := by rfl
set_option maxRecDepth 100000 in
theorem j_dw_7 : j_dw (j_d 7) = ([259, 258] : List Nat).filterMap (fun i => lw_tbl[i]?) := by rfl
set_option maxRecDepth 100000 in
theorem j_dw_8 : j_dw (j_d 8) = ([969, 967, 968] : List Nat).filterMap (fun i => lw_tbl[i]?) := by rfl
set_option maxRecDepth 100000 in
theorem j_dw_9 : j_dw (j_d 9) = ([1065, 1063, 1064] : List Nat).filterMap (fun i => lw_tbl[i]?) := by rfl
set_option maxRecDepth 100000 in
theorem j_dw_10 : j_dw (j_d 10) = ([992, 990, 991] : List Nat).filterMap (fun i => lw_tbl[i]?) := by rfl
set_option maxRecDepth 100000 in
theorem j_dw_11 : j_dw (j_d 11) = ([349, 348] : List Nat).filterMap (fun i => lw_tbl[i]?) := by rfl
set_option maxRecDepth 100000 in
theorem j_dw_12 : j_dw (j_d 12) = ([424, 423] : List Nat).filterMap (fun i => lw_tbl[i]?) := by rfl
set_option maxRecDepth 100000 in
theorem j_dw_13 : j_dw (j_d 13) = ([823, 821, 822] : List Nat).filterMap (fun i => lw_tbl[i]?) := by rfl
set_option maxRecDepth 100000 in
theorem j_dw_14 : j_dw (j_d 14) = ([664, 662, 663] : List Nat).filterMap (fun i => lw_tbl[i]?) := by rfl
set_option maxRecDepth 100000 in
theorem j_dw_15 : j_dw (j_d 15) = ([324, 323] : List Nat).filterMap (fun i => lw_tbl[i]?) := by rfl
set_option maxRecDepth 100000 in
theorem j_dw_16 : j_dw (j_d 16) = ([717, 715, 716] : List Nat).filterMap (fun i => lw_tbl[i]?) := by rfl
set_option maxRecDepth 100000 in
theorem j_dw_17 : j_dw (j_d 17) = ([814, 812, 813] : List Nat).filterMap (fun i => lw_tbl[i]?) := by rfl
set_option maxRecDepth 100000 in
theorem j_dw_18 : j_dw (j_d 18) = ([752, 751, 15] : List Nat).filterMap (fun i => lw_tbl[i]?) := by rfl
set_option maxRecDepth 100000 in
theorem j_dw_19 : j_dw (j_d 19) = ([756, 755, 16] : List Nat).filterMap (fun i => lw_tbl[i]?) := by rfl
set_option maxRecDepth 100000 in
theorem j_dw_20 : j_dw (j_d 20) = ([760, 759, 17] : List Nat).filterMap (fun i => lw_tbl[i]?) := by rfl
set_option maxRecDepth 100000 in
theorem j_dw_21 : j_dw (j_d 21) = ([794, 793, 22] : List Nat).filterMap (fun i => lw_tbl[i]?) := by rfl
set_option maxRecDepth 100000 in
theorem j_dw_22 : j_dw (j_d 22) = ([770, 769, 18] : List Nat).filterMap (fun i => lw_tbl[i]?) := by rfl
set_option maxRecDepth 100000 in
theorem j_dw_23 : j_dw (j_d 23) = ([798, 797, 23] : List Nat).filterMap (fun i => lw_tbl[i]?) := by rfl
set_option maxRecDepth 100000 in
theorem j_dw_24 : j_dw (j_d 24) = ([774, 773, 19] : List Nat).filterMap (fun i => lw_tbl[i]?) := by rfl
set_option maxRecDepth 100000 in
theorem j_dw_25 : j_dw (j_d 25) = ([778, 777, 20] : List Nat).filterMap (fun i => lw_tbl[i]?) := by rfl
set_option maxRecDepth 100000 in
theorem j_dw_26 : j_dw (j_d 26) = ([782, 781, 21] : List Nat).filterMap (fun i => lw_tbl[i]?) := by rfl
set_option maxRecDepth 100000 in
theorem j_dw_27 : j_dw (j_d 27) = ([807, 806, 25] : List Nat).filterMap (fun i => lw_tbl[i]?) := by rfl
set_option maxRecDepth 100000 in
theorem j_dw_28 : j_dw (j_d 28) = ([810, 809] : List Nat).filterMap (fun i => lw_tbl[i]?) := by rfl
set_option maxRecDepth 100000 in
theorem j_dw_29 : j_dw (j_d 29) = ([802, 801, 24] : List Nat).filterMap (fun i => lw_tbl[i]?) := by rfl
set_option maxRecDepth 100000 in
theorem j_dw_30 : j_dw (j_d 30) = ([722, 721, 12] : List Nat).filterMap (fun i => lw_tbl[i]?) := by rfl
set_option maxRecDepth 100000 in
theorem j_dw_31 : j_dw (j_d 31) = ([726, 725, 13] : List Nat).filterMap (fun i => lw_tbl[i]?) := by rfl
set_option maxRecDepth 100000 in
theorem j_dw_32 : j_dw (j_d 32) = ([735, 734, 14] : List Nat).filterMap (fun i => lw_tbl[i]?) := by rfl
set_option maxRecDepth 100000 in
theorem j_dw_33 : j_dw (j_d 33) = ([741, 740] : List Nat).filterMap (fun i => lw_tbl[i]?) := by rfl
set_option maxRecDepth 100000 in
theorem j_dw_34 : j_dw (j_d 34) = ([237, 236] : List Nat).filterMap (fun i => lw_tbl[i]?) := by rfl
set_option maxRecDepth 100000 in
theorem j_dw_35 : j_dw (j_d 35) = ([965, 963, 964] : List Nat).filterMap (fun i => lw_tbl[i]?) := by rfl
set_option maxRecDepth 100000 in
theorem j_dw_36 : j_dw (j_d 36) = ([988, 987, 29] : List Nat).filterMap (fun i => lw_tbl[i]?) := by rfl
set_option maxRecDepth 100000 in
theorem j_dw_37 : j_dw (j_d 37) = ([977, 976, 28] : List Nat).filterMap (fun i => lw_tbl[i]?) := by rfl
set_option maxRecDepth 100000 in
theorem j_dw_38 : j_dw (j_d 38) = ([996, 995, 30] : List Nat).filterMap (fun i => lw_tbl[i]?) := by rfl
set_option maxRecDepth 100000 in
theorem j_dw_39 : j_dw (j_d 39) = ([1016, 1015, 34] : List Nat).filterMap (fun i => lw_tbl[i]?) := by rfl
set_option maxRecDepth 100000 in
theorem j_dw_40 : j_dw (j_d 40) = ([1020, 1019, 35] : List Nat).filterMap (fun i => lw_tbl[i]?) := by rfl
set_option maxRecDepth 100000 in
theorem j_dw_41 : j_dw (j_d 41) = ([1049, 1048, 42] : List Nat).filterMap (fun i => lw_tbl[i]?) := by rfl
set_option maxRecDepth 100000 in
theorem j_dw_42 : j_dw (j_d 42) = ([1024, 1023, 36] : List Nat).filterMap (fun i => lw_tbl[i]?) := by rfl
set_option maxRecDepth 100000 in
theorem j_dw_43 : j_dw (j_d 43) = ([1028, 1027, 37] : List Nat).filterMap (fun i => lw_tbl[i]?) := by rfl
set_option maxRecDepth 100000 in
theorem j_dw_44 : j_dw (j_d 44) = ([1032, 1031, 38] : List Nat).filterMap (fun i => lw_tbl[i]?) := by rfl
set_option maxRecDepth 100000 in
theorem j_dw_45 : j_dw (j_d 45) = ([1036, 1035, 39] : List Nat).filterMap (fun i => lw_tbl[i]?) := by rfl
set_option maxRecDepth 100000 in
theorem j_dw_46 : j_dw (j_d 46) = ([1044, 1043, 41] : List Nat).filterMap (fun i => lw_tbl[i]?) := by rfl
set_option maxRecDepth 100000 in
theorem j_dw_47 : j_dw (j_d 47) = ([1040, 1039, 40] : List Nat).filterMap (fun i => lw_tbl[i]?) := by rfl
set_option maxRecDepth 100000 in
theorem j_dw_48 : j_dw (j_d 48) = ([973, 972, 27] : List Nat).filterMap (fun i => lw_tbl[i]?) := by rfl
set_option maxRecDepth 100000 in
theorem j_dw_49 : j_dw (j_d 49) = ([1004, 1003, 31] : List Nat).filterMap (fun i => lw_tbl[i]?) := by rfl
set_option maxRecDepth 100000 in
theorem j_dw_50 : j_dw (j_d 50) = ([1008, 1007, 32] : List Nat).filterMap (fun i => lw_tbl[i]?) := by rfl
set_option maxRecDepth 100000 in
theorem j_dw_51 : j_dw (j_d 51) = ([1012, 1011, 33] : List Nat).filterMap (fun i => lw_tbl[i]?) := by rfl
set_option maxRecDepth 100000 in
theorem j_dw_52 : j_dw (j_d 52) = ([343, 342] : List Nat).filterMap (fun i => lw_tbl[i]?) := by rfl
set_option maxRecDepth 100000 in
theorem j_dw_53 : j_dw (j_d 53) = ([708, 706, 707] : List Nat).filterMap (fun i => lw_tbl[i]?) := by rfl
set_option maxRecDepth 100000 in
theorem j_dw_54 : j_dw (j_d 54) = ([765, 763, 764] : List Nat).filterMap (fun i => lw_tbl[i]?) := by rfl
set_option maxRecDepth 100000 in
theorem j_dw_55 : j_dw (j_d 55) = ([243, 242] : List Nat).filterMap (fun i => lw_tbl[i]?) := by rfl
set_option maxRecDepth 100000 in
theorem j_dw_56 : j_dw (j_d 56) = ([936, 934, 935] : List Nat).filterMap (fun i => lw_tbl[i]?) := by rfl
set_option maxRecDepth 100000 in
theorem j_dw_57 : j_dw (j_d 57) = ([1070, 1068, 1069] : List Nat).filterMap (fun i => lw_tbl[i]?) := by rfl
set_option maxRecDepth 100000 in
theorem j_dw_58 : j_dw (j_d 58) = ([981, 979, 980] : List Nat).filterMap (fun i => lw_tbl[i]?) := by rfl
set_option maxRecDepth 100000 in
theorem j_dw_59 : j_dw (j_d 59) = ([696, 694, 695] : List Nat).filterMap (fun i => lw_tbl[i]?) := by rfl
set_option maxRecDepth 100000 in
theorem j_dw_60 : j_dw (j_d 60) = ([668, 666, 667] : List Nat).filterMap (fun i => lw_tbl[i]?) := by rfl
set_option maxRecDepth 100000 in
theorem j_dw_61 : j_dw (j_d 61) = ([713, 711, 712] : List Nat).filterMap (fun i => lw_tbl[i]?) := by rfl
set_option maxRecDepth 100000 in
theorem j_dw_62 : j_dw (j_d 62) = ([330, 329] : List Nat).filterMap (fun i => lw_tbl[i]?) := by rfl
set_option maxRecDepth 100000 in
theorem j_dw_63 : j_dw (j_d 63) = ([731, 729, 730] : List Nat).filterMap (fun i => lw_tbl[i]?) := by rfl
set_option maxRecDepth 100000 in
theorem j_dw_64 : j_dw (j_d 64) = ([676, 674, 675] : List Nat).filterMap (fun i => lw_tbl[i]?) := by rfl
set_option maxRecDepth 100000 in
theorem j_dw_65 : j_dw (j_d 65) = ([680, 678, 679] : List Nat).filterMap (fun i => lw_tbl[i]?) := by rfl
set_option maxRecDepth 100000 in
theorem j_dw_66 : j_dw (j_d 66) = ([684, 682, 683] : List Nat).filterMap (fun i => lw_tbl[i]?) := by rfl
set_option maxRecDepth 100000 in
theorem j_dw_67 : j_dw (j_d 67) = ([633, 631, 632] : List Nat).filterMap (fun i => lw_tbl[i]?) := by rfl
set_option maxRecDepth 100000 in
theorem j_dw_68 : j_dw (j_d 68) = ([656, 654, 655] : List Nat).filterMap (fun i => lw_tbl[i]?) := by rfl
set_option maxRecDepth 100000 in
theorem j_dw_69 : j_dw (j_d 69) = ([786, 784, 785] : List Nat).filterMap (fun i => lw_tbl[i]?) := by rfl
set_option maxRecDepth 100000 in
theorem j_dw_70 : j_dw (j_d 70) = ([790, 788, 789] : List Nat).filterMap (fun i => lw_tbl[i]?) := by rfl
set_option maxRecDepth 100000 in
theorem j_dw_71 : j_dw (j_d 71) = ([651, 649, 650] : List Nat).filterMap (fun i => lw_tbl[i]?) := by rfl
set_option maxRecDepth 100000 in
theorem j_dw_72 : j_dw (j_d 72) = ([701, 699, 700] : List Nat).filterMap (fun i => lw_tbl[i]?) := by rfl
set_option maxRecDepth 100000 in
theorem j_dw_73 : j_dw (j_d 73) = ([672, 670, 671] : List Nat).filterMap (fun i => lw_tbl[i]?) := by rfl
set_option maxRecDepth 100000 in
theorem j_dw_74 : j_dw (j_d 74) = ([839, 837, 838] : List Nat).filterMap (fun i => lw_tbl[i]?) := by rfl
set_option maxRecDepth 100000 in
theorem j_dw_75 : j_dw (j_d 75) = ([1236, 1234, 1235] : List Nat).filterMap (fun i => lw_tbl[i]?) := by rfl
set_option maxRecDepth 100000 in
theorem j_dw_76 : j_dw (j_d 76) = ([1241, 1239, 1240] : List Nat).filterMap (fun i => lw_tbl[i]?) := by rfl
set_option maxRecDepth 100000 in
theorem j_dw_77 : j_dw (j_d 77) = ([197, 196] : List Nat).filterMap (fun i => lw_tbl[i]?) := by rfl
set_option maxRecDepth 100000 in
theorem j_dw_78 : j_dw (j_d 78) = ([1078, 1076, 1077] : List Nat).filterMap (fun i => lw_tbl[i]?) := by rfl
set_option maxRecDepth 100000 in
theorem j_dw_79 : j_dw (j_d 79) = ([1083, 1082, 45] : List Nat).filterMap (fun i => lw_tbl[i]?) := by rfl
set_option maxRecDepth 100000 in
theorem j_dw_80 : j_dw (j_d 80) = ([1088, 1087, 46] : List Nat).filterMap (fun i => lw_tbl[i]?) := by rfl
set_option maxRecDepth 100000 in
theorem j_dw_81 : j_dw (j_d 81) = ([637, 635, 636] : List Nat).filterMap (fun i => lw_tbl[i]?) := by rfl
set_option maxRecDepth 100000 in
theorem j_dw_82 : j_dw (j_d 82) = ([1263, 1261, 1262] : List Nat).filterMap (fun i => lw_tbl[i]?) := by rfl
set_option maxRecDepth 100000 in
theorem j_dw_83 : j_dw (j_d 83) = ([1093, 1092, 47] : List Nat).filterMap (fun i => lw_tbl[i]?) := by rfl
set_option maxRecDepth 100000 in
theorem j_dw_84 : j_dw (j_d 84) = ([1221, 1219, 1220] : List Nat).filterMap (fun i => lw_tbl[i]?) := by rfl
set_option maxRecDepth 100000 in
theorem j_dw_85 : j_dw (j_d 85) = ([1097, 1096, 48] : List Nat).filterMap (fun i => lw_tbl[i]?) := by rfl
set_option maxRecDepth 100000 in
theorem j_dw_86 : j_dw (j_d 86) = ([1101, 1100, 49] : List Nat).filterMap (fun i => lw_tbl[i]?) := by rfl
set_option maxRecDepth 100000 in
theorem j_dw_87 : j_dw (j_d 87) = ([162, 161] : List Nat).filterMap (fun i => lw_tbl[i]?) := by rfl
set_option maxRecDepth 100000 in
theorem j_dw_88 : j_dw (j_d 88) = ([580, 578, 579] : List Nat).filterMap (fun i => lw_tbl[i]?) := by rfl
set_option maxRecDepth 100000 in
theorem j_dw_89 : j_dw (j_d 89) = ([1143, 1141, 1142] : List Nat).filterMap (fun i => lw_tbl[i]?) := by rfl
set_option maxRecDepth 100000 in
theorem j_dw_90 : j_dw (j_d 90) = ([1155, 1153, 1154] : List Nat).filterMap (fun i => lw_tbl[i]?) := by rfl
set_option maxRecDepth 100000 in
theorem j_dw_91 : j_dw (j_d 91) = ([576, 574, 575] : List Nat).filterMap (fun i => lw_tbl[i]?) := by rfl
set_option maxRecDepth 100000 in
theorem j_dw_92 : j_dw (j_d 92) = ([1167, 1165, 1166] : List Nat).filterMap (fun i => lw_tbl[i]?) := by rfl
set_option maxRecDepth 100000 in
theorem j_dw_93 : j_dw (j_d 93) = ([613, 611, 612] : List Nat).filterMap (fun i => lw_tbl[i]?) := by rfl
set_option maxRecDepth 100000 in
theorem j_dw_94 : j_dw (j_d 94) = ([565, 563, 564] : List Nat).filterMap (fun i => lw_tbl[i]?) := by rfl
set_option maxRecDepth 100000 in
theorem j_dw_95 : j_dw (j_d 95) = ([572, 571, 0] : List Nat).filterMap (fun i => lw_tbl[i]?) := by rfl
set_option maxRecDepth 100000 in
theorem j_dw_96 : j_dw (j_d 96) = ([150, 149] : List Nat).filterMap (fun i => lw_tbl[i]?) := by rfl
set_option maxRecDepth 100000 in
theorem j_dw_97 : j_dw (j_d 97) = ([866, 864, 865] : List Nat).filterMap (fun i => lw_tbl[i]?) := by rfl
set_option maxRecDepth 100000 in
theorem j_dw_98 : j_dw (j_d 98) = ([958, 956, 957] : List Nat).filterMap (fun i => lw_tbl[i]?) := by rfl
set_option maxRecDepth 100000 in
theorem j_dw_99 : j_dw (j_d 99) = ([1056, 1054, 1055] : List Nat).filterMap (fun i => lw_tbl[i]?) := by rfl
set_option maxRecDepth 100000 in
theorem j_dw_100 : j_dw (j_d 100) = ([1109, 1107, 1108] : List Nat).filterMap (fun i => lw_tbl[i]?) := by rfl
set_option maxRecDepth 100000 in
theorem j_dw_101 : j_dw (j_d 101) = ([1131, 1129, 1130] : List Nat).filterMap (fun i => lw_tbl[i]?) := by rfl
set_option maxRecDepth 100000 in
theorem j_dw_102 : j_dw (j_d 102) = ([1138, 1136, 1137] : List Nat).filterMap (fun i => lw_tbl[i]?) := by rfl
set_option maxRecDepth 100000 in
theorem j_dw_103 : j_dw (j_d 103) = ([1150, 1148, 1149] : List Nat).filterMap (fun i => lw_tbl[i]?) := by rfl
set_option maxRecDepth 100000 in
theorem j_dw_104 : j_dw (j_d 104) = ([1162, 1160, 1161] : List Nat).filterMap (fun i => lw_tbl[i]?) := by rfl
set_option maxRecDepth 100000 in
theorem j_dw_105 : j_dw (j_d 105) = ([561, 559, 560] : List Nat).filterMap (fun i => lw_tbl[i]?) := by rfl
set_option maxRecDepth 100000 in
theorem j_dw_106 : j_dw (j_d 106) = ([1174, 1172, 1173] : List Nat).filterMap (fun i => lw_tbl[i]?) := by rfl
set_option maxRecDepth 100000 in
theorem j_dw_107 : j_dw (j_d 107) = ([1181, 1179, 1180] : List Nat).filterMap (fun i => lw_tbl[i]?) := by rfl
set_option maxRecDepth 100000 in
theorem j_dw_108 : j_dw (j_d 108) = ([834, 832, 833] : List Nat).filterMap (fun i => lw_tbl[i]?) := by rfl
set_option maxRecDepth 100000 in
theorem j_dw_109 : j_dw (j_d 109) = ([844, 842, 843] : List Nat).filterMap (fun i => lw_tbl[i]?) := by rfl
set_option maxRecDepth 100000 in
theorem j_dw_110 : j_dw (j_d 110) = ([1196, 1194, 1195] : List Nat).filterMap (fun i => lw_tbl[i]?) := by rfl
set_option maxRecDepth 100000 in
theorem j_dw_111 : j_dw (j_d 111) = ([1203, 1201, 1202] : List Nat).filterMap (fun i => lw_tbl[i]?) := by rfl
set_option maxRecDepth 100000 in
theorem j_dw_112 : j_dw (j_d 112) = ([1210, 1208, 1209] : List Nat).filterMap (fun i => lw_tbl[i]?) := by rfl
set_option maxRecDepth 100000 in
theorem j_dw_113 : j_dw (j_d 113) = ([1217, 1215, 1216] : List Nat).filterMap (fun i => lw_tbl[i]?) := by rfl
set_option maxRecDepth 100000 in
theorem j_dw_114 : j_dw (j_d 114) = ([1228, 1226, 1227] : List Nat).filterMap (fun i => lw_tbl[i]?) := by rfl
set_option maxRecDepth 100000 in
theorem j_dw_115 : j_dw (j_d 115) = ([1248, 1246, 1247] : List Nat).filterMap (fun i => lw_tbl[i]?) := by rfl
set_option maxRecDepth 100000 in
theorem j_dw_116 : j_dw (j_d 116) = ([1259, 1257, 1258] : List Nat).filterMap (fun i => lw_tbl[i]?) := by rfl
set_option maxRecDepth 100000 in
theorem j_dw_117 : j_dw (j_d 117) = ([1274, 1272, 1273] : List Nat).filterMap (fun i => lw_tbl[i]?) := by rfl
set_option maxRecDepth 100000 in
theorem j_dw_118 : j_dw (j_d 118) = ([1281, 1279, 1280] : List Nat).filterMap (fun i => lw_tbl[i]?) := by rfl
set_option maxRecDepth 100000 in
theorem j_dw_119 : j_dw (j_d 119) = ([853, 851, 852] : List Nat).filterMap (fun i => lw_tbl[i]?) := by rfl
set_option maxRecDepth 100000 in
theorem j_dw_120 : j_dw (j_d 120) = ([857, 855, 856] : List Nat).filterMap (fun i => lw_tbl[i]?) := by rfl
set_option maxRecDepth 100000 in
theorem j_dw_121 : j_dw (j_d 121) = ([869, 868] : List Nat).filterMap (fun i => lw_tbl[i]?) := by rfl
set_option maxRecDepth 100000 in
theorem j_dw_122 : j_dw (j_d 122) = ([961, 960] : List Nat).filterMap (fun i => lw_tbl[i]?) := by rfl
set_option maxRecDepth 100000 in
theorem j_dw_123 : j_dw (j_d 123) = ([984, 983] : List Nat).filterMap (fun i => lw_tbl[i]?) := by rfl
set_option maxRecDepth 100000 in
theorem j_dw_124 : j_dw (j_d 124) = ([999, 998] : List Nat).filterMap (fun i => lw_tbl[i]?) := by rfl
set_option maxRecDepth 100000 in
theorem j_dw_125 : j_dw (j_d 125) = ([647, 646, 9] : List Nat).filterMap (fun i => lw_tbl[i]?) := by rfl
set_option maxRecDepth 100000 in
theorem j_dw_126 : j_dw (j_d 126) = ([568, 567] : List Nat).filterMap (fun i => lw_tbl[i]?) := by rfl
set_option maxRecDepth 100000 in
theorem j_dw_127 : j_dw (j_d 127) = ([642, 641] : List Nat).filterMap (fun i => lw_tbl[i]?) := by rfl
set_option maxRecDepth 100000 in
theorem j_dw_128 : j_dw (j_d 128) = ([1060, 1059, 43] : List Nat).filterMap (fun i => lw_tbl[i]?) := by rfl
set_option maxRecDepth 100000 in
theorem j_dw_129 : j_dw (j_d 129) = ([1074, 1073, 44] : List Nat).filterMap (fun i => lw_tbl[i]?) := by rfl
set_option maxRecDepth 100000 in
theorem j_dw_130 : j_dw (j_d 130) = ([590, 589, 1] : List Nat).filterMap (fun i => lw_tbl[i]?) := by rfl
set_option maxRecDepth 100000 in
theorem j_dw_131 : j_dw (j_d 131) = ([1185, 1184, 50] : List Nat).filterMap (fun i => lw_tbl[i]?) := by rfl
set_option maxRecDepth 100000 in
theorem j_dw_132 : j_dw (j_d 132) = ([599, 598, 3] : List Nat).filterMap (fun i => lw_tbl[i]?) := by rfl
set_option maxRecDepth 100000 in
theorem j_dw_133 : j_dw (j_d 133) = ([604, 603, 4] : List Nat).filterMap (fun i => lw_tbl[i]?) := by rfl
set_option maxRecDepth 100000 in
theorem j_dw_134 : j_dw (j_d 134) = ([1232, 1231, 52] : List Nat).filterMap (fun i => lw_tbl[i]?) := by rfl
set_option maxRecDepth 100000 in
theorem j_dw_135 : j_dw (j_d 135) = ([617, 616, 5] : List Nat).filterMap (fun i => lw_tbl[i]?) := by rfl
set_option maxRecDepth 100000 in
theorem j_dw_136 : j_dw (j_d 136) = ([621, 620, 6] : List Nat).filterMap (fun i => lw_tbl[i]?) := by rfl
set_option maxRecDepth 100000 in
theorem j_dw_137 : j_dw (j_d 137) = ([595, 594, 2] : List Nat).filterMap (fun i => lw_tbl[i]?) := by rfl
set_option maxRecDepth 100000 in
theorem j_dw_138 : j_dw (j_d 138) = ([1189, 1188, 51] : List Nat).filterMap (fun i => lw_tbl[i]?) := by rfl
set_option maxRecDepth 100000 in
theorem j_dw_139 : j_dw (j_d 139) = ([625, 624, 7] : List Nat).filterMap (fun i => lw_tbl[i]?) := by rfl
set_option maxRecDepth 100000 in
theorem j_dw_140 : j_dw (j_d 140) = ([660, 659, 10] : List Nat).filterMap (fun i => lw_tbl[i]?) := by rfl
set_option maxRecDepth 100000 in
theorem j_dw_141 : j_dw (j_d 141) = ([629, 628, 8] : List Nat).filterMap (fun i => lw_tbl[i]?) := by rfl
set_option maxRecDepth 100000 in
theorem j_dw_142 : j_dw (j_d 142) = ([1252, 1251, 53] : List Nat).filterMap (fun i => lw_tbl[i]?) := by rfl
set_option maxRecDepth 100000 in
theorem j_dw_143 : j_dw (j_d 143) = ([1267, 1266, 54] : List Nat).filterMap (fun i => lw_tbl[i]?) := by rfl
set_option maxRecDepth 100000 in
theorem j_dw_144 : j_dw (j_d 144) = ([1286, 1285] : List Nat).filterMap (fun i => lw_tbl[i]?) := by rfl
set_option maxRecDepth 100000 in
theorem j_dw_145 : j_dw (j_d 145) = ([1536, 1534, 1535] : List Nat).filterMap (fun i => lw_tbl[i]?) := by rfl
set_option maxRecDepth 100000 in
theorem j_dw_146 : j_dw (j_d 146) = ([1547, 1546, 55] : List Nat).filterMap (fun i => lw_tbl[i]?) := by rfl
set_option maxRecDepth 100000 in
theorem j_dw_147 : j_dw (j_d 147) = ([1543, 1542] : List Nat).filterMap (fun i => lw_tbl[i]?) := by rfl
set_option maxRecDepth 100000 in
theorem j_dw_148 : j_dw (j_d 148) = ([1566, 1565] : List Nat).filterMap (fun i => lw_tbl[i]?) := by rfl
set_option maxRecDepth 100000 in
theorem j_dw_149 : j_dw (j_d 149) = ([1577, 1576] : List Nat).filterMap (fun i => lw_tbl[i]?) := by rfl
set_option maxRecDepth 100000 in
theorem j_dw_150 : j_dw (j_d 150) = ([1574, 1573, 60] : List Nat).filterMap (fun i => lw_tbl[i]?) := by rfl
set_option maxRecDepth 100000 in
theorem j_dw_151 : j_dw (j_d 151) = ([1563, 1562, 58] : List Nat).filterMap (fun i => lw_tbl[i]?) := by rfl
set_option maxRecDepth 100000 in
theorem j_dw_152 : j_dw (j_d 152) = ([1581, 1580, 61] : List Nat).filterMap (fun i => lw_tbl[i]?) := by rfl
set_option maxRecDepth 100000 in
theorem j_dw_153 : j_dw (j_d 153) = ([1570, 1569, 59] : List Nat).filterMap (fun i => lw_tbl[i]?) := by rfl
set_option maxRecDepth 100000 in
theorem j_dw_154 : j_dw (j_d 154) = ([1559, 1558, 57] : List Nat).filterMap (fun i => lw_tbl[i]?) := by rfl
set_option maxRecDepth 100000 in
theorem j_dw_155 : j_dw (j_d 155) = ([1589, 1588, 63] : List Nat).filterMap (fun i => lw_tbl[i]?) := by rfl
set_option maxRecDepth 100000 in
theorem j_dw_156 : j_dw (j_d 156) = ([1585, 1584, 62] : List Nat).filterMap (fun i => lw_tbl[i]?) := by rfl
set_option maxRecDepth 100000 in
theorem j_dw_157 : j_dw (j_d 157) = ([1593, 1592, 64] : List Nat).filterMap (fun i => lw_tbl[i]?) := by rfl
set_option maxRecDepth 100000 in
theorem j_dw_158 : j_dw (j_d 158) = ([1555, 1554, 56] : List Nat).filterMap (fun i => lw_tbl[i]?) := by rfl
set_option maxRecDepth 100000 in
theorem j_dw_159 : j_dw (j_d 159) = ([1540, 1538, 1539] : List Nat).filterMap (fun i => lw_tbl[i]?) := by rfl
set_option maxRecDepth 100000 in
theorem j_dw_160 : j_dw (j_d 160) = ([1551, 1549, 1550] : List Nat).filterMap (fun i => lw_tbl[i]?) := by rfl
set_option maxRecDepth 100000 in
theorem j_dw_161 : j_dw (j_d 161) = ([1609, 1608, 67] : List Nat).filterMap (fun i => lw_tbl[i]?) := by rfl
set_option maxRecDepth 100000 in
theorem j_dw_162 : j_dw (j_d 162) = ([1612, 1611] : List Nat).filterMap (fun i => lw_tbl[i]?) := by rfl
set_option maxRecDepth 100000 in
theorem j_dw_163 : j_dw (j_d 163) = ([1605, 1604, 66] : List Nat).filterMap (fun i => lw_tbl[i]?) := by rfl
set_option maxRecDepth 100000 in
theorem j_dw_164 : j_dw (j_d 164) = ([1616, 1615, 68] : List Nat).filterMap (fun i => lw_tbl[i]?) := by rfl
set_option maxRecDepth 100000 in
theorem j_dw_165 : j_dw (j_d 165) = ([1601, 1600, 65] : List Nat).filterMap (fun i => lw_tbl[i]?) := by rfl
set_option maxRecDepth 100000 in
theorem j_dw_166 : j_dw (j_d 166) = ([1597, 1595, 1596] : List Nat).filterMap (fun i => lw_tbl[i]?) := by rfl
set_option maxRecDepth 100000 in
theorem j_dw_167 : j_dw (j_d 167) = ([1811, 1810, 113] : List Nat).filterMap (fun i => lw_tbl[i]?) := by rfl
set_option maxRecDepth 100000 in
theorem j_dw_168 : j_dw (j_d 168) = ([1807, 1805, 1806] : List Nat).filterMap (fun i => lw_tbl[i]?) := by rfl
set_option maxRecDepth 100000 in
theorem j_dw_169 : j_dw (j_d 169) = ([1815, 1813, 1814] : List Nat).filterMap (fun i => lw_tbl[i]?) := by rfl
set_option maxRecDepth 100000 in
theorem j_dw_170 : j_dw (j_d 170) = ([1657, 1656, 78] : List Nat).filterMap (fun i => lw_tbl[i]?) := by rfl
set_option maxRecDepth 100000 in
theorem j_dw_171 : j_dw (j_d 171) = ([1819, 1817, 1818] : List Nat).filterMap (fun i => lw_tbl[i]?) := by rfl
set_option maxRecDepth 100000 in
theorem j_dw_172 : j_dw (j_d 172) = ([1827, 1826, 114] : List Nat).filterMap (fun i => lw_tbl[i]?) := by rfl
set_option maxRecDepth 100000 in
theorem j_dw_173 : j_dw (j_d 173) = ([1823, 1821, 1822] : List Nat).filterMap (fun i => lw_tbl[i]?) := by rfl
set_option maxRecDepth 100000 in
theorem j_dw_174 : j_dw (j_d 174) = ([1831, 1829, 1830] : List Nat).filterMap (fun i => lw_tbl[i]?) := by rfl
set_option maxRecDepth 100000 in
theorem j_dw_175 : j_dw (j_d 175) = ([1843, 1842, 116] : List Nat).filterMap (fun i => lw_tbl[i]?) := by rfl
set_option maxRecDepth 100000 in
theorem j_dw_176 : j_dw (j_d 176) = ([1839, 1838, 115] : List Nat).filterMap (fun i => lw_tbl[i]?) := by rfl
set_option maxRecDepth 100000 in
theorem j_dw_177 : j_dw (j_d 177) = ([1835, 1833, 1834] : List Nat).filterMap (fun i => lw_tbl[i]?) := by rfl
set_option maxRecDepth 100000 in
theorem j_dw_178 : j_dw (j_d 178) = ([1847, 1845, 1846] : List Nat).filterMap (fun i => lw_tbl[i]?) := by rfl
set_option maxRecDepth 100000 in
theorem j_dw_179 : j_dw (j_d 179) = ([1653, 1652, 77] : List Nat).filterMap (fun i => lw_tbl[i]?) := by rfl
set_option maxRecDepth 100000 in
theorem j_dw_180 : j_dw (j_d 180) = ([1645, 1644, 75] : List Nat).filterMap (fun i => lw_tbl[i]?) := by rfl
set_option maxRecDepth 100000 in
theorem j_dw_181 : j_dw (j_d 181) = ([1649, 1648, 76] : List Nat).filterMap (fun i => lw_tbl[i]?) := by rfl
set_option maxRecDepth 100000 in
theorem j_dw_182 : j_dw (j_d 182) = ([1641, 1640, 74] : List Nat).filterMap (fun i => lw_tbl[i]?) := by rfl
set_option maxRecDepth 100000 in
theorem j_dw_183 : j_dw (j_d 183) = ([1637, 1636, 73] : List Nat).filterMap (fun i => lw_tbl[i]?) := by rfl
set_option maxRecDepth 100000 in
theorem j_dw_184 : j_dw (j_d 184) = ([1661, 1660, 79] : List Nat).filterMap (fun i => lw_tbl[i]?) := by rfl
set_option maxRecDepth 100000 in
theorem j_dw_185 : j_dw (j_d 185) = ([1633, 1632, 72] : List Nat).filterMap (fun i => lw_tbl[i]?) := by rfl
set_option maxRecDepth 100000 in
theorem j_dw_186 : j_dw (j_d 186) = ([1665, 1664, 80] : List Nat).filterMap (fun i => lw_tbl[i]?) := by rfl
set_option maxRecDepth 100000 in
theorem j_dw_187 : j_dw (j_d 187) = ([1669, 1668, 81] : List Nat).filterMap (fun i => lw_tbl[i]?) := by rfl
set_option maxRecDepth 100000 in
theorem j_dw_188 : j_dw (j_d 188) = ([1629, 1628, 71] : List Nat).filterMap (fun i => lw_tbl[i]?) := by rfl
set_option maxRecDepth 100000 in
theorem j_dw_189 : j_dw (j_d 189) = ([1677, 1676, 83] : List Nat).filterMap (fun i => lw_tbl[i]?) := by rfl
set_option maxRecDepth 100000 in
theorem j_dw_190 : j_dw (j_d 190) = ([1673, 1672, 82] : List Nat).filterMap (fun i => lw_tbl[i]?) := by rfl
set_option maxRecDepth 100000 in
theorem j_dw_191 : j_dw (j_d 191) = ([1625, 1624, 70] : List Nat).filterMap (fun i => lw_tbl[i]?) := by rfl
set_option maxRecDepth 100000 in
theorem j_dw_192 : j_dw (j_d 192) = ([1620, 1619, 69] : List Nat).filterMap (fun i => lw_tbl[i]?) := by rfl
set_option maxRecDepth 100000 in
theorem j_dw_193 : j_dw (j_d 193) = ([1701, 1700, 89] : List Nat).filterMap (fun i => lw_tbl[i]?) := by rfl
set_option maxRecDepth 100000 in
theorem j_dw_194 : j_dw (j_d 194) = ([1697, 1696, 88] : List Nat).filterMap (fun i => lw_tbl[i]?) := by rfl
set_option maxRecDepth 100000 in
theorem j_dw_195 : j_dw (j_d 195) = ([1717, 1716, 93] : List Nat).filterMap (fun i => lw_tbl[i]?) := by rfl
set_option maxRecDepth 100000 in
theorem j_dw_196 : j_dw (j_d 196) = ([1744, 1743, 99] : List Nat).filterMap (fun i => lw_tbl[i]?) := by rfl
set_option maxRecDepth 100000 in
theorem j_dw_197 : j_dw (j_d 197) = ([1748, 1747, 100] : List Nat).filterMap (fun i => lw_tbl[i]?) := by rfl
set_option maxRecDepth 100000 in
theorem j_dw_198 : j_dw (j_d 198) = ([1752, 1751, 101] : List Nat).filterMap (fun i => lw_tbl[i]?) := by rfl
set_option maxRecDepth 100000 in
theorem j_dw_199 : j_dw (j_d 199) = ([1765, 1764, 104] : List Nat).filterMap (fun i => lw_tbl[i]?) := by rfl
set_option maxRecDepth 100000 in
theorem j_dw_200 : j_dw (j_d 200) = ([1776, 1775, 106] : List Nat).filterMap (fun i => lw_tbl[i]?) := by rfl
set_option maxRecDepth 100000 in
theorem j_dw_201 : j_dw (j_d 201) = ([1768, 1767] : List Nat).filterMap (fun i => lw_tbl[i]?) := by rfl
set_option maxRecDepth 100000 in
theorem j_dw_202 : j_dw (j_d 202) = ([1772, 1771, 105] : List Nat).filterMap (fun i => lw_tbl[i]?) := by rfl
set_option maxRecDepth 100000 in
theorem j_dw_203 : j_dw (j_d 203) = ([1757, 1756, 102] : List Nat).filterMap (fun i => lw_tbl[i]?) := by rfl
set_option maxRecDepth 100000 in
theorem j_dw_204 : j_dw (j_d 204) = ([1740, 1739, 98] : List Nat).filterMap (fun i => lw_tbl[i]?) := by rfl
set_option maxRecDepth 100000 in
theorem j_dw_205 : j_dw (j_d 205) = ([1761, 1760, 103] : List Nat).filterMap (fun i => lw_tbl[i]?) := by rfl
set_option maxRecDepth 100000 in
theorem j_dw_206 : j_dw (j_d 206) = ([1780, 1779, 107] : List Nat).filterMap (fun i => lw_tbl[i]?) := by rfl
set_option maxRecDepth 100000 in
theorem j_dw_207 : j_dw (j_d 207) = ([1736, 1735, 97] : List Nat).filterMap (fun i => lw_tbl[i]?) := by rfl
set_option maxRecDepth 100000 in
theorem j_dw_208 : j_dw (j_d 208) = ([1732, 1731, 96] : List Nat).filterMap (fun i => lw_tbl[i]?) := by rfl
set_option maxRecDepth 100000 in
theorem j_dw_209 : j_dw (j_d 209) = ([1784, 1783, 108] : List Nat).filterMap (fun i => lw_tbl[i]?) := by rfl
set_option maxRecDepth 100000 in
theorem j_dw_210 : j_dw (j_d 210) = ([1720, 1719] : List Nat).filterMap (fun i => lw_tbl[i]?) := by rfl
set_option maxRecDepth 100000 in
theorem j_dw_211 : j_dw (j_d 211) = ([1713, 1712, 92] : List Nat).filterMap (fun i => lw_tbl[i]?) := by rfl
set_option maxRecDepth 100000 in
theorem j_dw_212 : j_dw (j_d 212) = ([1728, 1727, 95] : List Nat).filterMap (fun i => lw_tbl[i]?) := by rfl
set_option maxRecDepth 100000 in
theorem j_dw_213 : j_dw (j_d 213) = ([1724, 1723, 94] : List Nat).filterMap (fun i => lw_tbl[i]?) := by rfl
set_option maxRecDepth 100000 in
theorem j_dw_214 : j_dw (j_d 214) = ([1689, 1688, 86] : List Nat).filterMap (fun i => lw_tbl[i]?) := by rfl
set_option maxRecDepth 100000 in
theorem j_dw_215 : j_dw (j_d 215) = ([1788, 1787, 109] : List Nat).filterMap (fun i => lw_tbl[i]?) := by rfl
set_option maxRecDepth 100000 in
theorem j_dw_216 : j_dw (j_d 216) = ([1709, 1708, 91] : List Nat).filterMap (fun i => lw_tbl[i]?) := by rfl
set_option maxRecDepth 100000 in
theorem j_dw_217 : j_dw (j_d 217) = ([1792, 1791, 110] : List Nat).filterMap (fun i => lw_tbl[i]?) := by rfl
set_option maxRecDepth 100000 in
theorem j_dw_218 : j_dw (j_d 218) = ([1693, 1692, 87] : List Nat).filterMap (fun i => lw_tbl[i]?) := by rfl
set_option maxRecDepth 100000 in
theorem j_dw_219 : j_dw (j_d 219) = ([1803, 1802, 112] : List Nat).filterMap (fun i => lw_tbl[i]?) := by rfl
set_option maxRecDepth 100000 in
theorem j_dw_220 : j_dw (j_d 220) = ([1685, 1684, 85] : List Nat).filterMap (fun i => lw_tbl[i]?) := by rfl
set_option maxRecDepth 100000 in
theorem j_dw_221 : j_dw (j_d 221) = ([1799, 1798] : List Nat).filterMap (fun i => lw_tbl[i]?) := by rfl
set_option maxRecDepth 100000 in
theorem j_dw_222 : j_dw (j_d 222) = ([1796, 1795, 111] : List Nat).filterMap (fun i => lw_tbl[i]?) := by rfl
set_option maxRecDepth 100000 in
theorem j_dw_223 : j_dw (j_d 223) = ([1705, 1704, 90] : List Nat).filterMap (fun i => lw_tbl[i]?) := by rfl
set_option maxRecDepth 100000 in
theorem j_dw_224 : j_dw (j_d 224) = ([1681, 1680, 84] : List Nat).filterMap (fun i => lw_tbl[i]?) := by rfl
set_option maxRecDepth 100000 in
theorem j_dw_225 : j_dw (j_d 225) = ([1855, 1854, 117] : List Nat).filterMap (fun i => lw_tbl[i]?) := by rfl
set_option maxRecDepth 100000 in
theorem j_dw_226 : j_dw (j_d 226) = ([1851, 1849, 1850] : List Nat).filterMap (fun i => lw_tbl[i]?) := by rfl
set_option maxRecDepth 100000 in
theorem j_dw_227 : j_dw (j_d 227) = ([1859, 1857, 1858] : List Nat).filterMap (fun i => lw_tbl[i]?) := by rfl
set_option maxRecDepth 100000 in
theorem j_dw_228 : j_dw (j_d 228) = ([1863, 1861, 1862] : List Nat).filterMap (fun i => lw_tbl[i]?) := by rfl
set_option maxRecDepth 100000 in
theorem j_dw_229 : j_dw (j_d 229) = ([1875, 1874, 119] : List Nat).filterMap (fun i => lw_tbl[i]?) := by rfl
set_option maxRecDepth 100000 in
theorem j_dw_230 : j_dw (j_d 230) = ([1871, 1870, 118] : List Nat).filterMap (fun i => lw_tbl[i]?) := by rfl
set_option maxRecDepth 100000 in
theorem j_dw_231 : j_dw (j_d 231) = ([1867, 1865, 1866] : List Nat).filterMap (fun i => lw_tbl[i]?) := by rfl
set_option maxRecDepth 100000 in
theorem j_dw_232 : j_dw (j_d 232) = ([1879, 1877, 1878] : List Nat).filterMap (fun i => lw_tbl[i]?) := by rfl
set_option maxRecDepth 100000 in
theorem j_dw_233 : j_dw (j_d 233) = ([1883, 1881, 1882] : List Nat).filterMap (fun i => lw_tbl[i]?) := by rfl
set_option maxRecDepth 100000 in
theorem j_dw_234 : j_dw (j_d 234) = ([1887, 1885, 1886] : List Nat).filterMap (fun i => lw_tbl[i]?) := by rfl
set_option maxRecDepth 100000 in
theorem j_dw_235 : j_dw (j_d 235) = ([1895, 1894, 120] : List Nat).filterMap (fun i => lw_tbl[i]?) := by rfl
set_option maxRecDepth 100000 in
theorem j_dw_236 : j_dw (j_d 236) = ([1898, 1897] : List Nat).filterMap (fun i => lw_tbl[i]?) := by rfl
set_option maxRecDepth 100000 in
theorem j_dw_237 : j_dw (j_d 237) = ([1901, 1900] : List Nat).filterMap (fun i => lw_tbl[i]?) := by rfl
set_option maxRecDepth 100000 in
theorem j_dw_238 : j_dw (j_d 238) = ([1891, 1889, 1890] : List Nat).filterMap (fun i => lw_tbl[i]?) := by rfl
set_option maxRecDepth 100000 in
theorem j_dw_239 : j_dw (j_d 239) = ([1913, 1912, 122] : List Nat).filterMap (fun i => lw_tbl[i]?) := by rfl
set_option maxRecDepth 100000 in
theorem j_dw_240 : j_dw (j_d 240) = ([1909, 1908, 121] : List Nat).filterMap (fun i => lw_tbl[i]?) := by rfl
set_option maxRecDepth 100000 in
theorem j_dw_241 : j_dw (j_d 241) = ([1905, 1903, 1904] : List Nat).filterMap (fun i => lw_tbl[i]?) := by rfl
set_option maxRecDepth 100000 in
theorem j_dw_242 : j_dw (j_d 242) = ([1917, 1915, 1916] : List Nat).filterMap (fun i => lw_tbl[i]?) := by rfl
set_option maxRecDepth 100000 in
theorem j_dw_243 : j_dw (j_d 243) = ([1921, 1919, 1920] : List Nat).filterMap (fun i => lw_tbl[i]?) := by rfl
set_option maxRecDepth 100000 in
theorem j_dw_244 : j_dw (j_d 244) = ([1925, 1923, 1924] : List Nat).filterMap (fun i => lw_tbl[i]?) := by rfl
set_option maxRecDepth 100000 in
theorem j_dw_245 : j_dw (j_d 245) = ([1929, 1927, 1928] : List Nat).filterMap (fun i => lw_tbl[i]?) := by rfl
set_option maxRecDepth 100000 in
theorem j_dw_246 : j_dw (j_d 246) = ([1933, 1931, 1932] : List Nat).filterMap (fun i => lw_tbl[i]?) := by rfl
set_option maxRecDepth 100000 in
theorem j_dw_247 : j_dw (j_d 247) = ([860, 859] : List Nat).filterMap (fun i => lw_tbl[i]?) := by rfl
set_option maxRecDepth 100000 in
theorem j_dw_248 : j_dw (j_d 248) = ([954, 953] : List Nat).filterMap (fun i => lw_tbl[i]?) := by rfl
set_option maxRecDepth 100000 in
theorem j_dw_249 : j_dw (j_d 249) = ([1052, 1051] : List Nat).filterMap (fun i => lw_tbl[i]?) := by rfl
set_option maxRecDepth 100000 in
theorem j_dw_250 : j_dw (j_d 250) = ([1104, 1103] : List Nat).filterMap (fun i => lw_tbl[i]?) := by rfl
set_option maxRecDepth 100000 in
theorem j_dw_251 : j_dw (j_d 251) = ([1127, 1126] : List Nat).filterMap (fun i => lw_tbl[i]?) := by rfl
set_option maxRecDepth 100000 in
theorem j_dw_252 : j_dw (j_d 252) = ([1134, 1133] : List Nat).filterMap (fun i => lw_tbl[i]?) := by rfl
set_option maxRecDepth 100000 in
theorem j_dw_253 : j_dw (j_d 253) = ([1146, 1145] : List Nat).filterMap (fun i => lw_tbl[i]?) := by rfl
set_option maxRecDepth 100000 in
theorem j_dw_254 : j_dw (j_d 254) = ([1158, 1157] : List Nat).filterMap (fun i => lw_tbl[i]?) := by rfl
set_option maxRecDepth 100000 in
theorem j_dw_255 : j_dw (j_d 255) = ([1170, 1169] : List Nat).filterMap (fun i => lw_tbl[i]?) := by rfl
set_option maxRecDepth 100000 in
theorem j_dw_256 : j_dw (j_d 256) = ([1177, 1176] : List Nat).filterMap (fun i => lw_tbl[i]?) := by rfl
set_option maxRecDepth 100000 in
theorem j_dw_257 : j_dw (j_d 257) = ([1192, 1191] : List Nat).filterMap (fun i => lw_tbl[i]?) := by rfl
set_option maxRecDepth 100000 in
theorem j_dw_258 : j_dw (j_d 258) = ([1199, 1198] : List Nat).filterMap (fun i => lw_tbl[i]?) := by rfl
set_option maxRecDepth 100000 in
theorem j_dw_259 : j_dw (j_d 259) = ([1206, 1205] : List Nat).filterMap (fun i => lw_tbl[i]?) := by rfl
set_option maxRecDepth 100000 in
theorem j_dw_260 : j_dw (j_d 260) = ([1213, 1212] : List Nat).filterMap (fun i => lw_tbl[i]?) := by rfl
set_option maxRecDepth 100000 in
theorem j_dw_261 : j_dw (j_d 261) = ([1224, 1223] : List Nat).filterMap (fun i => lw_tbl[i]?) := by rfl
set_option maxRecDepth 100000 in
theorem j_dw_262 : j_dw (j_d 262) = ([1244, 1243] : List Nat).filterMap (fun i => lw_tbl[i]?) := by rfl
set_option maxRecDepth 100000 in
theorem j_dw_263 : j_dw (j_d 263) = ([1255, 1254] : List Nat).filterMap (fun i => lw_tbl[i]?) := by rfl
set_option maxRecDepth 100000 in
theorem j_dw_264 : j_dw (j_d 264) = ([1270, 1269] : List Nat).filterMap (fun i => lw_tbl[i]?) := by rfl
set_option maxRecDepth 100000 in
theorem j_dw_265 : j_dw (j_d 265) = ([1277, 1276] : List Nat).filterMap (fun i => lw_tbl[i]?) := by rfl
set_option maxRecDepth 100000 in
theorem j_dw_267 : j_dw (j_d 267) = ([745, 744] : List Nat).filterMap (fun i => lw_tbl[i]?) := by rfl
theorem j_fm {ps : List Nat} {ws : List Cond} (h : ws = ps.filterMap (fun i => lw_tbl[i]?)) : ∀ w ∈ ws, w ∈ lw_tbl := by
  intro w hw
  rw [h] at hw
  obtain ⟨i, -, hi⟩ := List.mem_filterMap.mp hw
  exact List.mem_of_getElem? hi
def jCall : List Nat := [0, 1, 2, 3, 4, 5, 6, 7, 8, 9, 10, 11, 12, 13, 14, 15, 16, 17, 18, 19, 20, 21, 22, 23, 24, 25, 26, 27, 28, 29, 30, 31, 32, 33, 34, 35, 36, 37, 38, 39, 40, 41, 42, 43, 44, 45, 46, 47, 48, 49, 50, 51, 52, 53, 54, 55, 56, 57, 58, 59, 60, 61, 62, 63, 64, 65, 66, 67, 68, 69, 70, 71, 72, 73, 74, 75, 76, 77, 78, 79, 80, 81, 82, 83, 84, 85, 86, 87, 88, 89, 90, 91, 92, 93, 94, 95, 96, 97, 98, 99, 100, 101, 102, 103, 104, 105, 106, 107, 108, 109, 110, 111, 112, 113, 114, 115, 116, 117, 118, 119, 120, 121, 122, 123, 124, 125, 126, 127, 128, 129, 130, 131, 132, 133, 134, 135, 136, 137, 138, 139, 140, 141, 142, 143, 144, 145, 146, 147, 148, 149, 150, 151, 152, 153, 154, 155, 156, 157, 158, 159, 160, 161, 162, 163, 164, 165, 166, 167, 168, 169, 170, 171, 172, 173, 174, 175, 176, 177, 178, 179, 180, 181, 182, 183, 184, 185, 186, 187, 188, 189, 190, 191, 192, 193, 194, 195, 196, 197, 198, 199, 200, 201, 202, 203, 204, 205, 206, 207, 208, 209, 210, 211, 212, 213, 214, 215, 216, 217, 218, 219, 220, 221, 222, 223, 224, 225, 226, 227, 228, 229, 230, 231, 232, 233, 234, 235, 236, 237, 238, 239, 240, 241, 242, 243, 244, 245, 246, 247, 248, 249, 250, 251, 252, 253, 254, 255, 256, 257, 258, 259, 260, 261, 262, 263, 264, 265, 267]
theorem j_all_nil {P : Nat → Prop} : ∀ k ∈ ([] : List Nat), P k := fun _ h => absurd h List.not_mem_nil
theorem j_all_cons {P : Nat → Prop} {a : Nat} {l : List Nat} (h : P a) (t : ∀ k ∈ l, P k) : ∀ k ∈ a :: l, P k := List.forall_mem_cons.mpr ⟨h, t⟩
set_option maxRecDepth 100000 in
theorem j_dw_ok : ∀ k ∈ jCall, ∀ w ∈ j_dw (j_d k), w ∈ lw_tbl := by
  unfold jCall
  refine j_all_cons (j_fm j_dw_0) ?_
  refine j_all_cons (j_fm j_dw_1) ?_
  refine j_all_cons (j_fm j_dw_2) ?_
  refine j_all_cons (j_fm j_dw_3) ?_
  refine j_all_cons (j_fm j_dw_4) ?_
  refine j_all_cons (j_fm j_dw_5) ?_
  refine j_all_cons (j_fm j_dw_6) ?_
  refine j_all_cons (j_fm j_dw_7) ?_
  refine j_all_cons (j_fm j_dw_8) ?_
  refine j_all_cons (j_fm j_dw_9) ?_
  refine j_all_cons (j_fm j_dw_10) ?_
  refine j_all_cons (j_fm j_dw_11) ?_
  refine j_all_cons (j_fm j_dw_12) ?_
  refine j_all_cons (j_fm j_dw_13) ?_
  refine j_all_cons (j_fm j_dw_14) ?_
  refine j_all_cons (j_fm j_dw_15) ?_
  refine j_all_cons (j_fm j_dw_16) ?_
  refine j_all_cons (j_fm j_dw_17) ?_
  refine j_all_cons (j_fm j_dw_18) ?_
  refine j_all_cons (j_fm j_dw_19) ?_
  refine j_all_cons (j_fm j_dw_20) ?_
  refine j_all_cons (j_fm j_dw_21) ?_
  refine j_all_cons (j_fm j_dw_22) ?_
  refine j_all_cons (j_fm j_dw_23) ?_
  refine j_all_cons (j_fm j_dw_24) ?_
  refine j_all_cons (j_fm j_dw_25) ?_
  refine j_all_cons (j_fm j_dw_26) ?_
  refine j_all_cons (j_fm j_dw_27) ?_
  refine j_all_cons (j_fm j_dw_28) ?_
  refine j_all_cons (j_fm j_dw_29) ?_
  refine j_all_cons (j_fm j_dw_30) ?_
  refine j_all_cons (j_fm j_dw_31) ?_
  refine j_all_cons (j_fm j_dw_32) ?_
  refine j_all_cons (j_fm j_dw_33) ?_
  refine j_all_cons (j_fm j_dw_34) ?_
  refine j_all_cons (j_fm j_dw_35) ?_
  refine j_all_cons (j_fm j_dw_36) ?_
  refine j_all_cons (j_fm j_dw_37) ?_
  refine j_all_cons (j_fm j_dw_38) ?_
  refine j_all_cons (j_fm j_dw_39) ?_
  refine j_all_cons (j_fm j_dw_40) ?_
  refine j_all_cons (j_fm j_dw_41) ?_
  refine j_all_cons (j_fm j_dw_42) ?_
  refine j_all_cons (j_fm j_dw_43) ?_
  refine j_all_cons (j_fm j_dw_44) ?_
  refine j_all_cons (j_fm j_dw_45) ?_
  refine j_all_cons (j_fm j_dw_46) ?_
  refine j_all_cons (j_fm j_dw_47) ?_
  refine j_all_cons (j_fm j_dw_48) ?_
  refine j_all_cons (j_fm j_dw_49) ?_
  refine j_all_cons (j_fm j_dw_50) ?_
  refine j_all_cons (j_fm j_dw_51) ?_
  refine j_all_cons (j_fm j_dw_52) ?_
  refine j_all_cons (j_fm j_dw_53) ?_
  refine j_all_cons (j_fm j_dw_54) ?_
  refine j_all_cons (j_fm j_dw_55) ?_
  refine j_all_cons (j_fm j_dw_56) ?_
  refine j_all_cons (j_fm j_dw_57) ?_
  refine j_all_cons (j_fm j_dw_58) ?_
  refine j_all_cons (j_fm j_dw_59) ?_
  refine j_all_cons (j_fm j_dw_60) ?_
  refine j_all_cons (j_fm j_dw_61) ?_
  refine j_all_cons (j_fm j_dw_62) ?_
  refine j_all_cons (j_fm j_dw_63) ?_
  refine j_all_cons (j_fm j_dw_64) ?_
  refine j_all_cons (j_fm j_dw_65) ?_
  refine j_all_cons (j_fm j_dw_66) ?_
  refine j_all_cons (j_fm j_dw_67) ?_
  refine j_all_cons (j_fm j_dw_68) ?_
  refine j_all_cons (j_fm j_dw_69) ?_
  refine j_all_cons (j_fm j_dw_70) ?_
  refine j_all_cons (j_fm j_dw_71) ?_
  refine j_all_cons (j_fm j_dw_72) ?_
  refine j_all_cons (j_fm j_dw_73) ?_
  refine j_all_cons (j_fm j_dw_74) ?_
  refine j_all_cons (j_fm j_dw_75) ?_
  refine j_all_cons (j_fm j_dw_76) ?_
  refine j_all_cons (j_fm j_dw_77) ?_
  refine j_all_cons (j_fm j_dw_78) ?_
  refine j_all_cons (j_fm j_dw_79) ?_
  refine j_all_cons (j_fm j_dw_80) ?_
  refine j_all_cons (j_fm j_dw_81) ?_
  refine j_all_cons (j_fm j_dw_82) ?_
  refine j_all_cons (j_fm j_dw_83) ?_
  refine j_all_cons (j_fm j_dw_84) ?_
  refine j_all_cons (j_fm j_dw_85) ?_
  refine j_all_cons (j_fm j_dw_86) ?_
  refine j_all_cons (j_fm j_dw_87) ?_
  refine j_all_cons (j_fm j_dw_88) ?_
  refine j_all_cons (j_fm j_dw_89) ?_
  refine j_all_cons (j_fm j_dw_90) ?_
  refine j_all_cons (j_fm j_dw_91) ?_
  refine j_all_cons (j_fm j_dw_92) ?_
  refine j_all_cons (j_fm j_dw_93) ?_
  refine j_all_cons (j_fm j_dw_94) ?_
  refine j_all_cons (j_fm j_dw_95) ?_
  refine j_all_cons (j_fm j_dw_96) ?_
  refine j_all_cons (j_fm j_dw_97) ?_
  refine j_all_cons (j_fm j_dw_98) ?_
  refine j_all_cons (j_fm j_dw_99) ?_
  refine j_all_cons (j_fm j_dw_100) ?_
  refine j_all_cons (j_fm j_dw_101) ?_
  refine j_all_cons (j_fm j_dw_102) ?_
  refine j_all_cons (j_fm j_dw_103) ?_
  refine j_all_cons (j_fm j_dw_104) ?_
  refine j_all_cons (j_fm j_dw_105) ?_
  refine j_all_cons (j_fm j_dw_106) ?_
  refine j_all_cons (j_fm j_dw_107) ?_
  refine j_all_cons (j_fm j_dw_108) ?_
  refine j_all_cons (j_fm j_dw_109) ?_
  refine j_all_cons (j_fm j_dw_110) ?_
  refine j_all_cons (j_fm j_dw_111) ?_
  refine j_all_cons (j_fm j_dw_112) ?_
  refine j_all_cons (j_fm j_dw_113) ?_
  refine j_all_cons (j_fm j_dw_114) ?_
  refine j_all_cons (j_fm j_dw_115) ?_
  refine j_all_cons (j_fm j_dw_116) ?_
  refine j_all_cons (j_fm j_dw_117) ?_
  refine j_all_cons (j_fm j_dw_118) ?_
  refine j_all_cons (j_fm j_dw_119) ?_
  refine j_all_cons (j_fm j_dw_120) ?_
  refine j_all_cons (j_fm j_dw_121) ?_
  refine j_all_cons (j_fm j_dw_122) ?_
  refine j_all_cons (j_fm j_dw_123) ?_
  refine j_all_cons (j_fm j_dw_124) ?_
  refine j_all_cons (j_fm j_dw_125) ?_
  refine j_all_cons (j_fm j_dw_126) ?_
  refine j_all_cons (j_fm j_dw_127) ?_
  refine j_all_cons (j_fm j_dw_128) ?_
  refine j_all_cons (j_fm j_dw_129) ?_
  refine j_all_cons (j_fm j_dw_130) ?_
  refine j_all_cons (j_fm j_dw_131) ?_
  refine j_all_cons (j_fm j_dw_132) ?_
  refine j_all_cons (j_fm j_dw_133) ?_
  refine j_all_cons (j_fm j_dw_134) ?_
  refine j_all_cons (j_fm j_dw_135) ?_
  refine j_all_cons (j_fm j_dw_136) ?_
  refine j_all_cons (j_fm j_dw_137) ?_
  refine j_all_cons (j_fm j_dw_138) ?_
  refine j_all_cons (j_fm j_dw_139) ?_
  refine j_all_cons (j_fm j_dw_140) ?_
  refine j_all_cons (j_fm j_dw_141) ?_
  refine j_all_cons (j_fm j_dw_142) ?_
  refine j_all_cons (j_fm j_dw_143) ?_
  refine j_all_cons (j_fm j_dw_144) ?_
  refine j_all_cons (j_fm j_dw_145) ?_
  refine j_all_cons (j_fm j_dw_146) ?_
  refine j_all_cons (j_fm j_dw_147) ?_
  refine j_all_cons (j_fm j_dw_148) ?_
  refine j_all_cons (j_fm j_dw_149) ?_
  refine j_all_cons (j_fm j_dw_150) ?_
  refine j_all_cons (j_fm j_dw_151) ?_
  refine j_all_cons (j_fm j_dw_152) ?_
  refine j_all_cons (j_fm j_dw_153) ?_
  refine j_all_cons (j_fm j_dw_154) ?_
  refine j_all_cons (j_fm j_dw_155) ?_
  refine j_all_cons (j_fm j_dw_156) ?_
  refine j_all_cons (j_fm j_dw_157) ?_
  refine j_all_cons (j_fm j_dw_158) ?_
  refine j_all_cons (j_fm j_dw_159) ?_
  refine j_all_cons (j_fm j_dw_160) ?_
  refine j_all_cons (j_fm j_dw_161) ?_
  refine j_all_cons (j_fm j_dw_162) ?_
  refine j_all_cons (j_fm j_dw_163) ?_
  refine j_all_cons (j_fm j_dw_164) ?_
  refine j_all_cons (j_fm j_dw_165) ?_
  refine j_all_cons (j_fm j_dw_166) ?_
  refine j_all_cons (j_fm j_dw_167) ?_
  refine j_all_cons (j_fm j_dw_168) ?_
  refine j_all_cons (j_fm j_dw_169) ?_
  refine j_all_cons (j_fm j_dw_170) ?_
  refine j_all_cons (j_fm j_dw_171) ?_
  refine j_all_cons (j_fm j_dw_172) ?_
  refine j_all_cons (j_fm j_dw_173) ?_
  refine j_all_cons (j_fm j_dw_174) ?_
  refine j_all_cons (j_fm j_dw_175) ?_
  refine j_all_cons (j_fm j_dw_176) ?_
  refine j_all_cons (j_fm j_dw_177) ?_
  refine j_all_cons (j_fm j_dw_178) ?_
  refine j_all_cons (j_fm j_dw_179) ?_
  refine j_all_cons (j_fm j_dw_180) ?_
  refine j_all_cons (j_fm j_dw_181) ?_
  refine j_all_cons (j_fm j_dw_182) ?_
  refine j_all_cons (j_fm j_dw_183) ?_
  refine j_all_cons (j_fm j_dw_184) ?_
  refine j_all_cons (j_fm j_dw_185) ?_
  refine j_all_cons (j_fm j_dw_186) ?_
  refine j_all_cons (j_fm j_dw_187) ?_
  refine j_all_cons (j_fm j_dw_188) ?_
  refine j_all_cons (j_fm j_dw_189) ?_
  refine j_all_cons (j_fm j_dw_190) ?_
  refine j_all_cons (j_fm j_dw_191) ?_
  refine j_all_cons (j_fm j_dw_192) ?_
  refine j_all_cons (j_fm j_dw_193) ?_
  refine j_all_cons (j_fm j_dw_194) ?_
  refine j_all_cons (j_fm j_dw_195) ?_
  refine j_all_cons (j_fm j_dw_196) ?_
  refine j_all_cons (j_fm j_dw_197) ?_
  refine j_all_cons (j_fm j_dw_198) ?_
  refine j_all_cons (j_fm j_dw_199) ?_
  refine j_all_cons (j_fm j_dw_200) ?_
  refine j_all_cons (j_fm j_dw_201) ?_
  refine j_all_cons (j_fm j_dw_202) ?_
  refine j_all_cons (j_fm j_dw_203) ?_
  refine j_all_cons (j_fm j_dw_204) ?_
  refine j_all_cons (j_fm j_dw_205) ?_
  refine j_all_cons (j_fm j_dw_206) ?_
  refine j_all_cons (j_fm j_dw_207) ?_
  refine j_all_cons (j_fm j_dw_208) ?_
  refine j_all_cons (j_fm j_dw_209) ?_
  refine j_all_cons (j_fm j_dw_210) ?_
  refine j_all_cons (j_fm j_dw_211) ?_
  refine j_all_cons (j_fm j_dw_212) ?_
  refine j_all_cons (j_fm j_dw_213) ?_
  refine j_all_cons (j_fm j_dw_214) ?_
  refine j_all_cons (j_fm j_dw_215) ?_
  refine j_all_cons (j_fm j_dw_216) ?_
  refine j_all_cons (j_fm j_dw_217) ?_
  refine j_all_cons (j_fm j_dw_218) ?_
  refine j_all_cons (j_fm j_dw_219) ?_
  refine j_all_cons (j_fm j_dw_220) ?_
  refine j_all_cons (j_fm j_dw_221) ?_
  refine j_all_cons (j_fm j_dw_222) ?_
  refine j_all_cons (j_fm j_dw_223) ?_
  refine j_all_cons (j_fm j_dw_224) ?_
  refine j_all_cons (j_fm j_dw_225) ?_
  refine j_all_cons (j_fm j_dw_226) ?_
  refine j_all_cons (j_fm j_dw_227) ?_
  refine j_all_cons (j_fm j_dw_228) ?_
  refine j_all_cons (j_fm j_dw_229) ?_
  refine j_all_cons (j_fm j_dw_230) ?_
  refine j_all_cons (j_fm j_dw_231) ?_
  refine j_all_cons (j_fm j_dw_232) ?_
  refine j_all_cons (j_fm j_dw_233) ?_
  refine j_all_cons (j_fm j_dw_234) ?_
  refine j_all_cons (j_fm j_dw_235) ?_
  refine j_all_cons (j_fm j_dw_236) ?_
  refine j_all_cons (j_fm j_dw_237) ?_
  refine j_all_cons (j_fm j_dw_238) ?_
  refine j_all_cons (j_fm j_dw_239) ?_
  refine j_all_cons (j_fm j_dw_240) ?_
  refine j_all_cons (j_fm j_dw_241) ?_
  refine j_all_cons (j_fm j_dw_242) ?_
  refine j_all_cons (j_fm j_dw_243) ?_
  refine j_all_cons (j_fm j_dw_244) ?_
  refine j_all_cons (j_fm j_dw_245) ?_
  refine j_all_cons (j_fm j_dw_246) ?_
  refine j_all_cons (j_fm j_dw_247) ?_
  refine j_all_cons (j_fm j_dw_248) ?_
  refine j_all_cons (j_fm j_dw_249) ?_
  refine j_all_cons (j_fm j_dw_250) ?_
  refine j_all_cons (j_fm j_dw_251) ?_
  refine j_all_cons (j_fm j_dw_252) ?_
  refine j_all_cons (j_fm j_dw_253) ?_
  refine j_all_cons (j_fm j_dw_254) ?_
  refine j_all_cons (j_fm j_dw_255) ?_
  refine j_all_cons (j_fm j_dw_256) ?_
  refine j_all_cons (j_fm j_dw_257) ?_
  refine j_all_cons (j_fm j_dw_258) ?_
  refine j_all_cons (j_fm j_dw_259) ?_
  refine j_all_cons (j_fm j_dw_260) ?_
  refine j_all_cons (j_fm j_dw_261) ?_
  refine j_all_cons (j_fm j_dw_262) ?_
  refine j_all_cons (j_fm j_dw_263) ?_
  refine j_all_cons (j_fm j_dw_264) ?_
  refine j_all_cons (j_fm j_dw_265) ?_
  refine j_all_cons (j_fm j_dw_267) ?_
  exact j_all_nil
