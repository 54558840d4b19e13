/-! the words of each class's fields -/
theorem am_uw0 : u_ws RX0 TX0 5 = ([452, 454, 456, 458, 460] : List Nat).filterMap (fun i => tables_1[i]?) := by decide +kernel
theorem am_ug0 : (u_ws RX0 TX0 5).all goodWord = true := by decide +kernel
theorem am_uw1 : u_ws RX1 TX1 3 = ([281, 283, 285] : List Nat).filterMap (fun i => tables_1[i]?) := by decide +kernel
theorem am_ug1 : (u_ws RX1 TX1 3).all goodWord = true := by decide +kernel
theorem am_uw2 : u_ws RX2 TX2 14 = ([411, 413, 415, 417, 419, 421, 423, 425, 427, 429, 431, 433, 435, 437] : List Nat).filterMap (fun i => tables_1[i]?) := by decide +kernel
theorem am_ug2 : (u_ws RX2 TX2 14).all goodWord = true := by decide +kernel
theorem am_uw3 : u_ws RX3 TX3 5 = ([58, 60, 62, 64, 66] : List Nat).filterMap (fun i => tables_1[i]?) := by decide +kernel
theorem am_ug3 : (u_ws RX3 TX3 5).all goodWord = true := by decide +kernel
theorem am_uw4 : u_ws RX4 TX4 3 = ([299, 301, 303] : List Nat).filterMap (fun i => tables_1[i]?) := by decide +kernel
theorem am_ug4 : (u_ws RX4 TX4 3).all goodWord = true := by decide +kernel
theorem am_uw5 : u_ws RX5 TX5 2 = ([472, 474] : List Nat).filterMap (fun i => tables_1[i]?) := by decide +kernel
theorem am_ug5 : (u_ws RX5 TX5 2).all goodWord = true := by decide +kernel
theorem am_uw6 : u_ws RX6 TX6 20 = ([136, 138, 140, 142, 144, 146, 148, 150, 152, 154, 156, 158, 160, 162, 164, 166, 168, 170, 172, 174] : List Nat).filterMap (fun i => tables_1[i]?) := by decide +kernel
theorem am_ug6 : (u_ws RX6 TX6 20).all goodWord = true := by decide +kernel
theorem am_uw7 : u_ws RX7 TX7 3 = ([369, 371, 373] : List Nat).filterMap (fun i => tables_1[i]?) := by decide +kernel
theorem am_ug7 : (u_ws RX7 TX7 3).all goodWord = true := by decide +kernel
theorem am_uw8 : u_ws RX8 TX8 4 = ([490, 492, 494, 496] : List Nat).filterMap (fun i => tables_1[i]?) := by decide +kernel
theorem am_ug8 : (u_ws RX8 TX8 4).all goodWord = true := by decide +kernel
theorem am_uw9 : u_ws RX9 TX9 10 = ([233, 235, 237, 239, 241, 243, 245, 247, 249, 251] : List Nat).filterMap (fun i => tables_1[i]?) := by decide +kernel
theorem am_ug9 : (u_ws RX9 TX9 10).all goodWord = true := by decide +kernel
theorem am_uw10 : u_ws RX10 TX10 8 = ([336, 338, 340, 342, 344, 346, 348, 350] : List Nat).filterMap (fun i => tables_1[i]?) := by decide +kernel
theorem am_ug10 : (u_ws RX10 TX10 8).all goodWord = true := by decide +kernel
theorem am_uw11 : u_ws RX11 TX11 10 = ([509, 511, 513, 515, 517, 519, 521, 523, 525, 527] : List Nat).filterMap (fun i => tables_1[i]?) := by decide +kernel
theorem am_ug11 : (u_ws RX11 TX11 10).all goodWord = true := by decide +kernel
theorem am_uw12 : u_ws RX12 TX12 103 = ([1334, 1336, 1338, 1340, 1342, 1344, 1346, 1348, 1350, 1352, 1354, 1356, 1358, 1360, 1362, 1364, 1366, 1368, 1370, 1372, 1374, 1376, 1378, 1380, 1382, 1384, 1386, 1388, 1390, 1392, 1394, 1396, 1398, 1400, 1402, 1404, 1406, 1408, 1410, 1412, 1414, 1416, 1418, 1420, 1422, 1424, 1426, 1428, 1430, 1432, 1434, 1436, 1438, 1440, 1442, 1444, 1446, 1448, 1450, 1452, 1454, 1456, 1458, 1460, 1462, 1464, 1466, 1468, 1470, 1472, 1474, 1476, 1478, 1480, 1482, 1484, 1486, 1488, 1490, 1492, 1494, 1496, 1498, 1500, 1502, 1504, 1506, 1508, 1510, 1512, 1514, 1516, 1518, 1520, 1522, 1524, 1526, 1528, 1530, 1532, 1534, 1536, 1538] : List Nat).filterMap (fun i => tables_1[i]?) := by decide +kernel
theorem am_ug12 : (u_ws RX12 TX12 103).all goodWord = true := by decide +kernel
theorem am_uwk {ws : List Cond} {is : List Nat} (h : ws = is.filterMap (fun i => tables_1[i]?)) (g : ws.all goodWord = true) : ∀ w ∈ ws, w ∈ am_W := by
  intro w hw
  have h1 := List.all_eq_true.mp g w hw
  rw [h] at hw
  obtain ⟨i, -, hi⟩ := List.mem_filterMap.mp hw
  exact am_inT (List.mem_of_getElem? hi) h1
theorem am_uws (c : Nat) (h : c < 13) : ∀ w ∈ u_ws (am_cn c) (am_ct c) (am_nf c), w ∈ am_W := by
  match c, h with
  | 0, _ => exact am_uwk am_uw0 am_ug0
  | 1, _ => exact am_uwk am_uw1 am_ug1
  | 2, _ => exact am_uwk am_uw2 am_ug2
  | 3, _ => exact am_uwk am_uw3 am_ug3
  | 4, _ => exact am_uwk am_uw4 am_ug4
  | 5, _ => exact am_uwk am_uw5 am_ug5
  | 6, _ => exact am_uwk am_uw6 am_ug6
  | 7, _ => exact am_uwk am_uw7 am_ug7
  | 8, _ => exact am_uwk am_uw8 am_ug8
  | 9, _ => exact am_uwk am_uw9 am_ug9
  | 10, _ => exact am_uwk am_uw10 am_ug10
  | 11, _ => exact am_uwk am_uw11 am_ug11
  | 12, _ => exact am_uwk am_uw12 am_ug12
theorem am_decl : ∀ c, c < 13 → ∀ k, k < am_nf c → (am_ct c k).1 = am_cn c := by decide +kernel
