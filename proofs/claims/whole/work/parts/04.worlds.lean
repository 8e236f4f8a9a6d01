theorem lg_fm {ws : List Cond} {ps : List Nat} (h : ws = ps.filterMap (fun i => tables_1[i]?)) (hg : ws.all goodWord = true) : ∀ w ∈ ws, w ∈ lg_tbl := by
  intro w hw
  have h1 := List.all_eq_true.mp hg w hw
  rw [h] at hw
  obtain ⟨i, -, hi⟩ := List.mem_filterMap.mp hw
  exact lg_at i hi h1
def ceX : CE := fun ad κ f q h => match h with
  | 0 => .inr (11, [.ref (ad 1), .ref (ad 2), .ref (ad 3), .ref (ad 4), .ref (ad 5), .ref (ad 6), .ref (ad 7), .ref (ad 8), .ref (ad 9), .ref (ad 10), .ref (ad 11)])
  | 1 => .inr (8, [.ref (ad 16), .int (f 1)])
  | 2 => .inr (5, [.ref (ad 12), .int (f 1), .ref (ad 13), .ref (ad 17), .ref (ad 18), .int (f 5), .int (f 6), .int (f 7), .int (f 8), .long (q 9), .int (f 10), .int (f 11), .int (f 12), .int (f 13)])
  | 3 => .inr (9, [.int (f 0), .int (f 1), .int (f 2), .int (f 3), .int (f 4), .int (f 5), .ref (ad 22), .ref (ad 23), .ref (ad 24), .ref (ad 25), .ref (ad 26), .ref (ad 27), .ref (ad 28)])
  | 4 => .inr (7, [.ref (ad 14)])
  | 5 => .inr (7, [.ref (ad 15)])
  | 6 => .inr (3, [.ref (ad 36), .ref (ad 37), .ref (ad 38), .int (f 3), .int (f 4)])
  | 7 => .inr (2, [.ref (ad 3), .ref (ad 39), .ref (ad 40)])
  | 8 => .inr (0, [.ref (ad 3), .ref (ad 7), .ref (ad 41), .ref (ad 42), .ref (ad 43), .ref (ad 44), .int (f 6), .int (f 7), .int (f 8)])
  | 9 => .inr (4, [.ref (ad 3), .ref (ad 7)])
  | 10 => .inr (1, [.ref (ad 3), .ref (ad 8), .ref (ad 45)])
  | 11 => .inr (10, [.ref (ad 3), .ref (ad 8), .ref (ad 46), .ref (ad 47), .ref (ad 48), .ref (ad 49), .int (f 6), .int (f 7), .int (f 8), .int (f 9), .int (f 10)])
  | 12 => .inr (9, [.int (f 0), .int (f 1), .int (f 2), .int (f 3), .int (f 4), .int (f 5), .ref (ad 29), .ref (ad 30), .ref (ad 31), .ref (ad 32), .ref (ad 33), .ref (ad 34), .ref (ad 35)])
  | 13 => .inr (6, [.ref (ad 19), .ref (ad 20), .ref (ad 21), .ref (ad 1), .int (f 4), .long (q 5)])
  | 14 => .inl (κ.1, 33, .inl f)
  | 15 => .inl (κ.1, 33, .inl f)
  | 16 => .inl (κ.2.1, 2000, .inl f)
  | 17 => .inl (κ.2.2.2, 5, .inr (.inl q))
  | 18 => .inl (κ.1, 21, .inl f)
  | 19 => .inl (κ.1, 401, .inl f)
  | 20 => .inl (κ.1, 401, .inl f)
  | 21 => .inl (κ.2.2.2, 401, .inr (.inl q))
  | 22 => .inl (κ.1, 10, .inl f)
  | 23 => .inl (κ.1, 5, .inl f)
  | 24 => .inl (κ.1, 5, .inl f)
  | 25 => .inl (κ.1, 8, .inl f)
  | 26 => .inl (κ.1, 4, .inl f)
  | 27 => .inl (κ.1, 408, .inl f)
  | 28 => .inl (κ.1, 408, .inl f)
  | 29 => .inl (κ.1, 10, .inl f)
  | 30 => .inl (κ.1, 5, .inl f)
  | 31 => .inl (κ.1, 5, .inl f)
  | 32 => .inl (κ.1, 8, .inl f)
  | 33 => .inl (κ.1, 4, .inl f)
  | 34 => .inl (κ.1, 408, .inl f)
  | 35 => .inl (κ.1, 408, .inl f)
  | 36 => .inl (κ.1, 1320, .inl f)
  | 37 => .inl (κ.1, 99, .inl f)
  | 38 => .inl (κ.2.2.1, 3, .inl f)
  | 39 => .inl (κ.1, 9, .inl f)
  | 40 => .inl (κ.1, 16, .inl f)
  | 41 => .inl (κ.1, 10, .inl f)
  | 42 => .inl (κ.1, 80, .inl f)
  | 43 => .inl (κ.1, 88, .inl f)
  | 44 => .inl (κ.1, 88, .inl f)
  | 45 => .inl (κ.2.2.1, 256, .inl f)
  | 46 => .inl (κ.1, 20, .inl f)
  | 47 => .inl (κ.1, 20, .inl f)
  | 48 => .inl (κ.2.2.1, 20, .inl f)
  | 49 => .inl (κ.1, 10, .inl f)
  | _ => .inl (κ.1, 0, .inl f)
def ceM : CE := fun ad κ f q h => match h with
  | 0 => .inr (12, [.int (f 0), .ref (ad 1), .int (f 2), .ref (ad 2), .int (f 4), .ref (ad 3), .ref (ad 4), .ref (ad 5), .ref (ad 6), .ref (ad 7), .int (f 10), .int (f 11), .int (f 12), .int (f 13), .int (f 14), .int (f 15), .int (f 16), .int (f 17), .int (f 18), .int (f 19), .ref (ad 8), .ref (ad 9), .ref (ad 10), .ref (ad 11), .ref (ad 12), .ref (ad 13), .ref (ad 14), .ref (ad 15), .ref (ad 16), .ref (ad 17), .ref (ad 18), .ref (ad 19), .ref (ad 20), .int (f 33), .ref (ad 21), .ref (ad 22), .ref (ad 23), .ref (ad 24), .ref (ad 25), .int (f 39), .ref (ad 26), .ref (ad 27), .ref (ad 28), .int (f 43), .ref (ad 29), .ref (ad 30), .int (f 46), .ref (ad 31), .ref (ad 32), .int (f 49), .int (f 50), .ref (ad 33), .ref (ad 34), .ref (ad 35), .ref (ad 36), .ref (ad 37), .ref (ad 38), .int (f 57), .ref (ad 39), .ref (ad 40), .ref (ad 41), .ref (ad 42), .ref (ad 43), .ref (ad 44)])
  | 1 => .inl (κ.2.1, 2000, .inl f)
  | 2 => .inl (κ.2.1, 2000, .inl f)
  | 3 => .inl (κ.1, 403, .inl f)
  | 4 => .inl (κ.1, 403, .inl f)
  | 5 => .inl (κ.1, 403, .inl f)
  | 6 => .inl (κ.2.2.2, 403, .inr (.inl q))
  | 7 => .inl (κ.2.2.2, 22, .inr (.inl q))
  | 8 => .inl (κ.1, 2, .inl f)
  | 9 => .inl (κ.1, 20, .inl f)
  | 10 => .inl (κ.2.2.2, 5, .inr (.inl q))
  | 11 => .inl (κ.1, 2, .inl f)
  | 12 => .inl (κ.1, 10, .inl f)
  | 13 => .inl (κ.1, 10, .inl f)
  | 14 => .inl (κ.1, 16, .inl f)
  | 15 => .inl (κ.1, 2, .inl f)
  | 16 => .inl (κ.1, 2, .inl f)
  | 17 => .inl (κ.1, 2, .inl f)
  | 18 => .inl (κ.1, 2, .inl f)
  | 19 => .inl (κ.1, 8, .inl f)
  | 20 => .inl (κ.1, 8, .inl f)
  | 21 => .inl (κ.2.2.1, 260, .inl f)
  | 22 => .inl (κ.1, 260, .inl f)
  | 23 => .inl (κ.1, 260, .inl f)
  | 24 => .inl (κ.1, 260, .inl f)
  | 25 => .inl (κ.1, 260, .inl f)
  | 26 => .inl (κ.1, 840, .inl f)
  | 27 => .inl (κ.1, 840, .inl f)
  | 28 => .inl (κ.1, 64, .inl f)
  | 29 => .inl (κ.1, 9, .inl f)
  | 30 => .inl (κ.1, 400, .inl f)
  | 31 => .inl (κ.1, 33, .inl f)
  | 32 => .inl (κ.1, 33, .inl f)
  | 33 => .inl (κ.1, 1320, .inl f)
  | 34 => .inl (κ.1, 10, .inl f)
  | 35 => .inl (κ.1, 80, .inl f)
  | 36 => .inl (κ.1, 88, .inl f)
  | 37 => .inl (κ.1, 88, .inl f)
  | 38 => .inl (κ.1, 1024, .inl f)
  | 39 => .inl (κ.1, 20, .inl f)
  | 40 => .inl (κ.1, 20, .inl f)
  | 41 => .inl (κ.2.2.1, 20, .inl f)
  | 42 => .inl (κ.1, 10, .inl f)
  | 43 => .inl (κ.2.2.1, 3, .inl f)
  | 44 => .inl (κ.1, 99, .inl f)
  | _ => .inl (κ.1, 0, .inl f)
/-- a State's handle: the one that goes on, or the one for trying; its row of cells -/
def isSt (st : Nat) : Prop := st = 4 ∨ st = 5
theorem st_lt {st : Nat} (h : isSt st) : st < 50 := by rcases h with rfl | rfl <;> decide
theorem st_lt2 {st : Nat} (h : isSt st) : st + 10 < 50 := by rcases h with rfl | rfl <;> decide
theorem st_ce {ad : Nat → Nat} {κ : KC} {f : Nat → Int32} {q : Nat → Int64} {st : Nat} (h : isSt st) : ceX ad κ f q st = .inr (7, [.ref (ad (st + 10))]) := by rcases h with rfl | rfl <;> rfl
theorem st_ce2 {ad : Nat → Nat} {κ : KC} {st : Nat} (h : isSt st) (f : Nat → Int32) (q : Nat → Int64) : ceX ad κ f q (st + 10) = .inl (κ.1, 33, .inl f) := by rcases h with rfl | rfl <;> rfl
theorem st_4 : isSt 4 := Or.inl rfl
theorem st_5 : isSt 5 := Or.inr rfl
theorem iq_X0 : u_ws RX0 TX0 9 = [299, 301, 303, 305, 307, 309, 311, 313, 315].filterMap (fun i => tables_1[i]?) := by decide +kernel
theorem ig_X0 : (u_ws RX0 TX0 9).all goodWord = true := by decide +kernel
theorem iw_X0 : ∀ w ∈ u_ws RX0 TX0 9, w ∈ lg_tbl := fun w hw => lg_fm iq_X0 ig_X0 w hw
theorem iq_X1 : u_ws RX1 TX1 3 = [340, 342, 344].filterMap (fun i => tables_1[i]?) := by decide +kernel
theorem ig_X1 : (u_ws RX1 TX1 3).all goodWord = true := by decide +kernel
theorem iw_X1 : ∀ w ∈ u_ws RX1 TX1 3, w ∈ lg_tbl := fun w hw => lg_fm iq_X1 ig_X1 w hw
theorem iq_X2 : u_ws RX2 TX2 3 = [272, 274, 276].filterMap (fun i => tables_1[i]?) := by decide +kernel
theorem ig_X2 : (u_ws RX2 TX2 3).all goodWord = true := by decide +kernel
theorem iw_X2 : ∀ w ∈ u_ws RX2 TX2 3, w ∈ lg_tbl := fun w hw => lg_fm iq_X2 ig_X2 w hw
theorem iq_X3 : u_ws RX3 TX3 5 = [251, 253, 255, 257, 259].filterMap (fun i => tables_1[i]?) := by decide +kernel
theorem ig_X3 : (u_ws RX3 TX3 5).all goodWord = true := by decide +kernel
theorem iw_X3 : ∀ w ∈ u_ws RX3 TX3 5, w ∈ lg_tbl := fun w hw => lg_fm iq_X3 ig_X3 w hw
theorem iq_X4 : u_ws RX4 TX4 2 = [326, 328].filterMap (fun i => tables_1[i]?) := by decide +kernel
theorem ig_X4 : (u_ws RX4 TX4 2).all goodWord = true := by decide +kernel
theorem iw_X4 : ∀ w ∈ u_ws RX4 TX4 2, w ∈ lg_tbl := fun w hw => lg_fm iq_X4 ig_X4 w hw
theorem iq_X5 : u_ws RX5 TX5 14 = [194, 196, 198, 200, 202, 204, 206, 208, 210, 212, 214, 216, 218, 220].filterMap (fun i => tables_1[i]?) := by decide +kernel
theorem ig_X5 : (u_ws RX5 TX5 14).all goodWord = true := by decide +kernel
theorem iw_X5 : ∀ w ∈ u_ws RX5 TX5 14, w ∈ lg_tbl := fun w hw => lg_fm iq_X5 ig_X5 w hw
theorem iq_X6 : u_ws RX6 TX6 6 = [164, 166, 168, 170, 172, 174].filterMap (fun i => tables_1[i]?) := by decide +kernel
theorem ig_X6 : (u_ws RX6 TX6 6).all goodWord = true := by decide +kernel
theorem iw_X6 : ∀ w ∈ u_ws RX6 TX6 6, w ∈ lg_tbl := fun w hw => lg_fm iq_X6 ig_X6 w hw
theorem iq_X7 : u_ws RX7 TX7 1 = [236].filterMap (fun i => tables_1[i]?) := by decide +kernel
theorem ig_X7 : (u_ws RX7 TX7 1).all goodWord = true := by decide +kernel
theorem iw_X7 : ∀ w ∈ u_ws RX7 TX7 1, w ∈ lg_tbl := fun w hw => lg_fm iq_X7 ig_X7 w hw
theorem iq_X8 : u_ws RX8 TX8 2 = [41, 43].filterMap (fun i => tables_1[i]?) := by decide +kernel
theorem ig_X8 : (u_ws RX8 TX8 2).all goodWord = true := by decide +kernel
theorem iw_X8 : ∀ w ∈ u_ws RX8 TX8 2, w ∈ lg_tbl := fun w hw => lg_fm iq_X8 ig_X8 w hw
theorem iq_X9 : u_ws RX9 TX9 13 = [121, 123, 125, 127, 129, 131, 133, 135, 137, 139, 141, 143, 145].filterMap (fun i => tables_1[i]?) := by decide +kernel
theorem ig_X9 : (u_ws RX9 TX9 13).all goodWord = true := by decide +kernel
theorem iw_X9 : ∀ w ∈ u_ws RX9 TX9 13, w ∈ lg_tbl := fun w hw => lg_fm iq_X9 ig_X9 w hw
theorem iq_X10 : u_ws RX10 TX10 11 = [369, 371, 373, 375, 377, 379, 381, 383, 385, 387, 389].filterMap (fun i => tables_1[i]?) := by decide +kernel
theorem ig_X10 : (u_ws RX10 TX10 11).all goodWord = true := by decide +kernel
theorem iw_X10 : ∀ w ∈ u_ws RX10 TX10 11, w ∈ lg_tbl := fun w hw => lg_fm iq_X10 ig_X10 w hw
theorem iq_X11 : u_ws RX11 TX11 11 = [411, 413, 415, 417, 419, 421, 423, 425, 427, 429, 431].filterMap (fun i => tables_1[i]?) := by decide +kernel
theorem ig_X11 : (u_ws RX11 TX11 11).all goodWord = true := by decide +kernel
theorem iw_X11 : ∀ w ∈ u_ws RX11 TX11 11, w ∈ lg_tbl := fun w hw => lg_fm iq_X11 ig_X11 w hw
theorem iq_X12 : u_ws RX12 TX12 64 = [1258, 1260, 1262, 1264, 1266, 1268, 1270, 1272, 1274, 1276, 1278, 1280, 1282, 1284, 1286, 1288, 1290, 1292, 1294, 1296, 1298, 1300, 1302, 1304, 1306, 1308, 1310, 1312, 1314, 1316, 1318, 1320, 1322, 1324, 1326, 1328, 1330, 1332, 1334, 1336, 1338, 1340, 1342, 1344, 1346, 1348, 1350, 1352, 1354, 1356, 1358, 1360, 1362, 1364, 1366, 1368, 1370, 1372, 1374, 1376, 1378, 1380, 1382, 1384].filterMap (fun i => tables_1[i]?) := by decide +kernel
theorem ig_X12 : (u_ws RX12 TX12 64).all goodWord = true := by decide +kernel
theorem iw_X12 : ∀ w ∈ u_ws RX12 TX12 64, w ∈ lg_tbl := fun w hw => lg_fm iq_X12 ig_X12 w hw
