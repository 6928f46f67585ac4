/-! the memory at the start -/
def mem0 : AMem := fun k _ i => if k = 303 then [0, 0, 0, 0, 20, 1, 9, 4, 3, 3, 3, 1, 1, 2].getD i.toNat 0 else if k = 1306 then [20, 1, 9, 4, 3, 3, 3, 1, 1, 2].getD i.toNat 0 else if k = 1359 then -1 else if k = 4 then (if i = 4 then 1 else 0) else 0
theorem LV_eq : LV = [(0, 0), (1, 0), (2, 0), (3, 0), (3, 1), (4, 0), (5, 0), (6, 0), (7, 0), (7, 1), (7, 2), (7, 3), (7, 4), (7, 5), (7, 6), (8, 0), (9, 0), (10, 0), (10, 1), (10, 2), (10, 3), (10, 4), (10, 5), (11, 0), (12, 0), (100, 0), (101, 0), (200, 0), (201, 0), (202, 0), (203, 0), (300, 0), (301, 0), (302, 0), (303, 0), (400, 0), (400, 1), (401, 0), (401, 1), (402, 0), (402, 1), (500, 0), (600, 0), (601, 0), (700, 0), (701, 0), (800, 0), (800, 1), (800, 2), (800, 3), (800, 4), (800, 5), (800, 6), (801, 0), (801, 1), (801, 2), (801, 3), (801, 4), (801, 5), (801, 6), (802, 0), (802, 1), (802, 2), (802, 3), (802, 4), (802, 5), (802, 6), (900, 0), (901, 0), (902, 0), (1000, 0), (1001, 0), (1002, 0), (1003, 0), (1100, 0), (1100, 1), (1100, 2), (1100, 3), (1100, 4), (1100, 5), (1208, 0), (1302, 0), (1303, 0), (1304, 0), (1305, 0), (1306, 0), (1309, 0), (1310, 0), (1311, 0), (1312, 0), (1313, 0), (1319, 0), (1320, 0), (1321, 0), (1322, 0), (1323, 0), (1324, 0), (1325, 0), (1327, 0), (1328, 0), (1337, 0), (1338, 0), (1342, 0), (1343, 0), (1345, 0), (1346, 0), (1347, 0), (1348, 0), (1350, 0), (1353, 0), (1354, 0), (1356, 0), (1358, 0), (1359, 0), (1360, 0), (1361, 0), (1362, 0)] := by decide +kernel
set_option maxRecDepth 10000 in
theorem ce0_0_0 {cA : ZCA} {ad : ZAd} : ce cA ad mem0 (0, 0) = .inr (0, [.ref (ad 100 0), .ref (ad 101 0), .int 0, .int 0]) := rfl
set_option maxRecDepth 10000 in
theorem ce0_1_0 {cA : ZCA} {ad : ZAd} : ce cA ad mem0 (1, 0) = .inr (1, [.ref (ad 200 0), .ref (ad 201 0), .ref (ad 202 0), .ref (ad 203 0), .int 0, .int 0]) := rfl
set_option maxRecDepth 10000 in
theorem ce0_2_0 {cA : ZCA} {ad : ZAd} : ce cA ad mem0 (2, 0) = .inr (2, [.ref (ad 300 0), .ref (ad 301 0), .ref (ad 302 0), .ref (ad 303 0), .int 0, .int 0, .int 0, .ref (ad 3 0)]) := rfl
set_option maxRecDepth 10000 in
theorem ce0_3_0 {cA : ZCA} {ad : ZAd} : ce cA ad mem0 (3, 0) = .inr (3, [.ref (ad 400 0), .ref (ad 401 0), .ref (ad 402 0), .int 0, .int 0]) := rfl
set_option maxRecDepth 10000 in
theorem ce0_3_1 {cA : ZCA} {ad : ZAd} : ce cA ad mem0 (3, 1) = .inr (3, [.ref (ad 400 1), .ref (ad 401 1), .ref (ad 402 1), .int 0, .int 0]) := rfl
set_option maxRecDepth 10000 in
theorem ce0_4_0 {cA : ZCA} {ad : ZAd} : ce cA ad mem0 (4, 0) = .inr (4, [.ref (ad 500 0), .int 0, .int 0, .int 0, .ref (ad 3 1)]) := rfl
set_option maxRecDepth 10000 in
theorem ce0_5_0 {cA : ZCA} {ad : ZAd} : ce cA ad mem0 (5, 0) = .inr (5, [.ref (ad 600 0), .ref (ad 601 0), .int 0, .int 0, .int 0]) := rfl
set_option maxRecDepth 10000 in
theorem ce0_6_0 {cA : ZCA} {ad : ZAd} : ce cA ad mem0 (6, 0) = .inr (6, [.ref (ad 700 0), .ref (ad 701 0), .int 0, .int 0]) := rfl
set_option maxRecDepth 10000 in
theorem ce0_7_0 {cA : ZCA} {ad : ZAd} : ce cA ad mem0 (7, 0) = .inr (7, [.ref (ad 800 0), .ref (ad 801 0), .ref (ad 802 0), .int 0, .int 0, .int 0, .int 0, .int 0, .int 0, .int 0, .int 0, .int 0, .int 0, .int 0]) := rfl
set_option maxRecDepth 10000 in
theorem ce0_7_1 {cA : ZCA} {ad : ZAd} : ce cA ad mem0 (7, 1) = .inr (7, [.ref (ad 800 1), .ref (ad 801 1), .ref (ad 802 1), .int 0, .int 0, .int 0, .int 0, .int 0, .int 0, .int 0, .int 0, .int 0, .int 0, .int 0]) := rfl
set_option maxRecDepth 10000 in
theorem ce0_7_2 {cA : ZCA} {ad : ZAd} : ce cA ad mem0 (7, 2) = .inr (7, [.ref (ad 800 2), .ref (ad 801 2), .ref (ad 802 2), .int 0, .int 0, .int 0, .int 0, .int 0, .int 0, .int 0, .int 0, .int 0, .int 0, .int 0]) := rfl
set_option maxRecDepth 10000 in
theorem ce0_7_3 {cA : ZCA} {ad : ZAd} : ce cA ad mem0 (7, 3) = .inr (7, [.ref (ad 800 3), .ref (ad 801 3), .ref (ad 802 3), .int 0, .int 0, .int 0, .int 0, .int 0, .int 0, .int 0, .int 0, .int 0, .int 0, .int 0]) := rfl
set_option maxRecDepth 10000 in
theorem ce0_7_4 {cA : ZCA} {ad : ZAd} : ce cA ad mem0 (7, 4) = .inr (7, [.ref (ad 800 4), .ref (ad 801 4), .ref (ad 802 4), .int 0, .int 0, .int 0, .int 0, .int 0, .int 0, .int 0, .int 0, .int 0, .int 0, .int 0]) := rfl
set_option maxRecDepth 10000 in
theorem ce0_7_5 {cA : ZCA} {ad : ZAd} : ce cA ad mem0 (7, 5) = .inr (7, [.ref (ad 800 5), .ref (ad 801 5), .ref (ad 802 5), .int 0, .int 0, .int 0, .int 0, .int 0, .int 0, .int 0, .int 0, .int 0, .int 0, .int 0]) := rfl
set_option maxRecDepth 10000 in
theorem ce0_7_6 {cA : ZCA} {ad : ZAd} : ce cA ad mem0 (7, 6) = .inr (7, [.ref (ad 800 6), .ref (ad 801 6), .ref (ad 802 6), .int 0, .int 0, .int 0, .int 0, .int 0, .int 0, .int 0, .int 0, .int 0, .int 0, .int 0]) := rfl
set_option maxRecDepth 10000 in
theorem ce0_8_0 {cA : ZCA} {ad : ZAd} : ce cA ad mem0 (8, 0) = .inr (8, [.ref (ad 900 0), .ref (ad 901 0), .ref (ad 902 0), .int 0, .int 0, .int 0, .int 0, .int 0, .int 0]) := rfl
set_option maxRecDepth 10000 in
theorem ce0_9_0 {cA : ZCA} {ad : ZAd} : ce cA ad mem0 (9, 0) = .inr (9, [.ref (ad 1000 0), .ref (ad 1001 0), .ref (ad 1002 0), .ref (ad 1003 0)]) := rfl
set_option maxRecDepth 10000 in
theorem ce0_10_0 {cA : ZCA} {ad : ZAd} : ce cA ad mem0 (10, 0) = .inr (10, [.ref (ad 1100 0), .int 0, .int 0, .int 0, .int 0]) := rfl
set_option maxRecDepth 10000 in
theorem ce0_10_1 {cA : ZCA} {ad : ZAd} : ce cA ad mem0 (10, 1) = .inr (10, [.ref (ad 1100 1), .int 0, .int 0, .int 0, .int 0]) := rfl
set_option maxRecDepth 10000 in
theorem ce0_10_2 {cA : ZCA} {ad : ZAd} : ce cA ad mem0 (10, 2) = .inr (10, [.ref (ad 1100 2), .int 0, .int 0, .int 0, .int 0]) := rfl
set_option maxRecDepth 10000 in
theorem ce0_10_3 {cA : ZCA} {ad : ZAd} : ce cA ad mem0 (10, 3) = .inr (10, [.ref (ad 1100 3), .int 0, .int 0, .int 0, .int 0]) := rfl
set_option maxRecDepth 10000 in
theorem ce0_10_4 {cA : ZCA} {ad : ZAd} : ce cA ad mem0 (10, 4) = .inr (10, [.ref (ad 1100 4), .int 0, .int 0, .int 0, .int 0]) := rfl
set_option maxRecDepth 10000 in
theorem ce0_10_5 {cA : ZCA} {ad : ZAd} : ce cA ad mem0 (10, 5) = .inr (10, [.ref (ad 1100 5), .int 0, .int 0, .int 0, .int 0]) := rfl
set_option maxRecDepth 10000 in
theorem ce0_11_0 {cA : ZCA} {ad : ZAd} : ce cA ad mem0 (11, 0) = .inr (11, [.ref (ad 2 0), .ref (ad 7 0), .ref (ad 8 0), .ref (ad 6 0), .ref (ad 9 0), .ref (ad 5 0), .ref (ad 1 0), .ref (ad 0 0), .ref (ad 1208 0), .ref (ad 4 0)]) := rfl
set_option maxRecDepth 10000 in
theorem ce0_12_0 {cA : ZCA} {ad : ZAd} : ce cA ad mem0 (12, 0) = .inr (12, [.int 0, .int 0, .ref (ad 1302 0), .ref (ad 1303 0), .ref (ad 1304 0), .ref (ad 1305 0), .ref (ad 1306 0), .int 0, .int 0, .ref (ad 1309 0), .ref (ad 1310 0), .ref (ad 1311 0), .ref (ad 1312 0), .ref (ad 1313 0), .int 0, .int 0, .int 0, .int 0, .int 0, .ref (ad 1319 0), .ref (ad 1320 0), .ref (ad 1321 0), .ref (ad 1322 0), .ref (ad 1323 0), .ref (ad 1324 0), .ref (ad 1325 0), .int 0, .ref (ad 1327 0), .ref (ad 1328 0), .int 0, .int 0, .int 0, .int 0, .int 0, .int 0, .int 0, .int 0, .ref (ad 1337 0), .ref (ad 1338 0), .int 0, .int 0, .int 0, .ref (ad 1342 0), .ref (ad 1343 0), .int 0, .ref (ad 1345 0), .ref (ad 1346 0), .ref (ad 1347 0), .ref (ad 1348 0), .int 0, .ref (ad 1350 0), .int 0, .int 0, .ref (ad 1353 0), .ref (ad 1354 0), .int 0, .ref (ad 1356 0), .int 0, .ref (ad 1358 0), .ref (ad 1359 0), .ref (ad 1360 0), .ref (ad 1361 0), .ref (ad 1362 0)]) := rfl
theorem ce0_100_0 {cA : ZCA} {ad : ZAd} : ce cA ad mem0 (100, 0) = .inl (cA .int, 50, .inl fun _ => 0) := rfl
theorem ce0_101_0 {cA : ZCA} {ad : ZAd} : ce cA ad mem0 (101, 0) = .inl (cA .int, 24, .inl fun _ => 0) := rfl
theorem ce0_200_0 {cA : ZCA} {ad : ZAd} : ce cA ad mem0 (200, 0) = .inl (cA .int, 40, .inl fun _ => 0) := rfl
theorem ce0_201_0 {cA : ZCA} {ad : ZAd} : ce cA ad mem0 (201, 0) = .inl (cA .int, 40, .inl fun _ => 0) := rfl
theorem ce0_202_0 {cA : ZCA} {ad : ZAd} : ce cA ad mem0 (202, 0) = .inl (cA .int, 40, .inl fun _ => 0) := rfl
theorem ce0_203_0 {cA : ZCA} {ad : ZAd} : ce cA ad mem0 (203, 0) = .inl (cA .int, 40, .inl fun _ => 0) := rfl
theorem ce0_300_0 {cA : ZCA} {ad : ZAd} : ce cA ad mem0 (300, 0) = .inl (cA .int, 7, .inl fun _ => 0) := rfl
theorem ce0_301_0 {cA : ZCA} {ad : ZAd} : ce cA ad mem0 (301, 0) = .inl (cA .int, 7, .inl fun _ => 0) := rfl
theorem ce0_302_0 {cA : ZCA} {ad : ZAd} : ce cA ad mem0 (302, 0) = .inl (cA .int, 7, .inl fun _ => 0) := rfl
theorem ce0_400_0 {cA : ZCA} {ad : ZAd} : ce cA ad mem0 (400, 0) = .inl (cA .int, 128, .inl fun _ => 0) := rfl
theorem ce0_400_1 {cA : ZCA} {ad : ZAd} : ce cA ad mem0 (400, 1) = .inl (cA .int, 128, .inl fun _ => 0) := rfl
theorem ce0_401_0 {cA : ZCA} {ad : ZAd} : ce cA ad mem0 (401, 0) = .inl (cA .int, 128, .inl fun _ => 0) := rfl
theorem ce0_401_1 {cA : ZCA} {ad : ZAd} : ce cA ad mem0 (401, 1) = .inl (cA .int, 128, .inl fun _ => 0) := rfl
theorem ce0_402_0 {cA : ZCA} {ad : ZAd} : ce cA ad mem0 (402, 0) = .inl (cA .int, 128, .inl fun _ => 0) := rfl
theorem ce0_402_1 {cA : ZCA} {ad : ZAd} : ce cA ad mem0 (402, 1) = .inl (cA .int, 128, .inl fun _ => 0) := rfl
theorem ce0_500_0 {cA : ZCA} {ad : ZAd} : ce cA ad mem0 (500, 0) = .inl (cA .int, 120, .inl fun _ => 0) := rfl
theorem ce0_600_0 {cA : ZCA} {ad : ZAd} : ce cA ad mem0 (600, 0) = .inl (cA .int, 5, .inl fun _ => 0) := rfl
theorem ce0_601_0 {cA : ZCA} {ad : ZAd} : ce cA ad mem0 (601, 0) = .inl (cA .int, 5, .inl fun _ => 0) := rfl
theorem ce0_700_0 {cA : ZCA} {ad : ZAd} : ce cA ad mem0 (700, 0) = .inl (cA .int, 183, .inl fun _ => 0) := rfl
theorem ce0_701_0 {cA : ZCA} {ad : ZAd} : ce cA ad mem0 (701, 0) = .inl (cA .int, 183, .inl fun _ => 0) := rfl
theorem ce0_800_0 {cA : ZCA} {ad : ZAd} : ce cA ad mem0 (800, 0) = .inl (cA .int, 7, .inl fun _ => 0) := rfl
theorem ce0_800_1 {cA : ZCA} {ad : ZAd} : ce cA ad mem0 (800, 1) = .inl (cA .int, 7, .inl fun _ => 0) := rfl
theorem ce0_800_2 {cA : ZCA} {ad : ZAd} : ce cA ad mem0 (800, 2) = .inl (cA .int, 7, .inl fun _ => 0) := rfl
theorem ce0_800_3 {cA : ZCA} {ad : ZAd} : ce cA ad mem0 (800, 3) = .inl (cA .int, 7, .inl fun _ => 0) := rfl
theorem ce0_800_4 {cA : ZCA} {ad : ZAd} : ce cA ad mem0 (800, 4) = .inl (cA .int, 7, .inl fun _ => 0) := rfl
theorem ce0_800_5 {cA : ZCA} {ad : ZAd} : ce cA ad mem0 (800, 5) = .inl (cA .int, 7, .inl fun _ => 0) := rfl
theorem ce0_800_6 {cA : ZCA} {ad : ZAd} : ce cA ad mem0 (800, 6) = .inl (cA .int, 7, .inl fun _ => 0) := rfl
theorem ce0_801_0 {cA : ZCA} {ad : ZAd} : ce cA ad mem0 (801, 0) = .inl (cA .int, 7, .inl fun _ => 0) := rfl
theorem ce0_801_1 {cA : ZCA} {ad : ZAd} : ce cA ad mem0 (801, 1) = .inl (cA .int, 7, .inl fun _ => 0) := rfl
theorem ce0_801_2 {cA : ZCA} {ad : ZAd} : ce cA ad mem0 (801, 2) = .inl (cA .int, 7, .inl fun _ => 0) := rfl
theorem ce0_801_3 {cA : ZCA} {ad : ZAd} : ce cA ad mem0 (801, 3) = .inl (cA .int, 7, .inl fun _ => 0) := rfl
theorem ce0_801_4 {cA : ZCA} {ad : ZAd} : ce cA ad mem0 (801, 4) = .inl (cA .int, 7, .inl fun _ => 0) := rfl
theorem ce0_801_5 {cA : ZCA} {ad : ZAd} : ce cA ad mem0 (801, 5) = .inl (cA .int, 7, .inl fun _ => 0) := rfl
theorem ce0_801_6 {cA : ZCA} {ad : ZAd} : ce cA ad mem0 (801, 6) = .inl (cA .int, 7, .inl fun _ => 0) := rfl
theorem ce0_802_0 {cA : ZCA} {ad : ZAd} : ce cA ad mem0 (802, 0) = .inl (cA .int, 6, .inl fun _ => 0) := rfl
theorem ce0_802_1 {cA : ZCA} {ad : ZAd} : ce cA ad mem0 (802, 1) = .inl (cA .int, 6, .inl fun _ => 0) := rfl
theorem ce0_802_2 {cA : ZCA} {ad : ZAd} : ce cA ad mem0 (802, 2) = .inl (cA .int, 6, .inl fun _ => 0) := rfl
theorem ce0_802_3 {cA : ZCA} {ad : ZAd} : ce cA ad mem0 (802, 3) = .inl (cA .int, 6, .inl fun _ => 0) := rfl
theorem ce0_802_4 {cA : ZCA} {ad : ZAd} : ce cA ad mem0 (802, 4) = .inl (cA .int, 6, .inl fun _ => 0) := rfl
theorem ce0_802_5 {cA : ZCA} {ad : ZAd} : ce cA ad mem0 (802, 5) = .inl (cA .int, 6, .inl fun _ => 0) := rfl
theorem ce0_802_6 {cA : ZCA} {ad : ZAd} : ce cA ad mem0 (802, 6) = .inl (cA .int, 6, .inl fun _ => 0) := rfl
theorem ce0_901_0 {cA : ZCA} {ad : ZAd} : ce cA ad mem0 (901, 0) = .inl (cA .int, 5, .inl fun _ => 0) := rfl
theorem ce0_902_0 {cA : ZCA} {ad : ZAd} : ce cA ad mem0 (902, 0) = .inl (cA .int, 5, .inl fun _ => 0) := rfl
theorem ce0_1000_0 {cA : ZCA} {ad : ZAd} : ce cA ad mem0 (1000, 0) = .inl (cA .int, 2, .inl fun _ => 0) := rfl
theorem ce0_1001_0 {cA : ZCA} {ad : ZAd} : ce cA ad mem0 (1001, 0) = .inl (cA .int, 2, .inl fun _ => 0) := rfl
theorem ce0_1002_0 {cA : ZCA} {ad : ZAd} : ce cA ad mem0 (1002, 0) = .inl (cA .int, 2, .inl fun _ => 0) := rfl
theorem ce0_1003_0 {cA : ZCA} {ad : ZAd} : ce cA ad mem0 (1003, 0) = .inl (cA .int, 14, .inl fun _ => 0) := rfl
theorem ce0_1100_0 {cA : ZCA} {ad : ZAd} : ce cA ad mem0 (1100, 0) = .inl (cA .long, 60, .inr (.inl fun _ => 0)) := rfl
theorem ce0_1100_1 {cA : ZCA} {ad : ZAd} : ce cA ad mem0 (1100, 1) = .inl (cA .long, 60, .inr (.inl fun _ => 0)) := rfl
theorem ce0_1100_2 {cA : ZCA} {ad : ZAd} : ce cA ad mem0 (1100, 2) = .inl (cA .long, 60, .inr (.inl fun _ => 0)) := rfl
theorem ce0_1100_3 {cA : ZCA} {ad : ZAd} : ce cA ad mem0 (1100, 3) = .inl (cA .long, 60, .inr (.inl fun _ => 0)) := rfl
theorem ce0_1100_4 {cA : ZCA} {ad : ZAd} : ce cA ad mem0 (1100, 4) = .inl (cA .long, 60, .inr (.inl fun _ => 0)) := rfl
theorem ce0_1100_5 {cA : ZCA} {ad : ZAd} : ce cA ad mem0 (1100, 5) = .inl (cA .long, 60, .inr (.inl fun _ => 0)) := rfl
theorem ce0_1302_0 {cA : ZCA} {ad : ZAd} : ce cA ad mem0 (1302, 0) = .inl (cA .int, 7, .inl fun _ => 0) := rfl
theorem ce0_1303_0 {cA : ZCA} {ad : ZAd} : ce cA ad mem0 (1303, 0) = .inl (cA .int, 7, .inl fun _ => 0) := rfl
theorem ce0_1304_0 {cA : ZCA} {ad : ZAd} : ce cA ad mem0 (1304, 0) = .inl (cA .int, 7, .inl fun _ => 0) := rfl
theorem ce0_1305_0 {cA : ZCA} {ad : ZAd} : ce cA ad mem0 (1305, 0) = .inl (cA .int, 7, .inl fun _ => 0) := rfl
theorem ce0_1309_0 {cA : ZCA} {ad : ZAd} : ce cA ad mem0 (1309, 0) = .inl (cA .int, 40, .inl fun _ => 0) := rfl
theorem ce0_1310_0 {cA : ZCA} {ad : ZAd} : ce cA ad mem0 (1310, 0) = .inl (cA .int, 40, .inl fun _ => 0) := rfl
theorem ce0_1311_0 {cA : ZCA} {ad : ZAd} : ce cA ad mem0 (1311, 0) = .inl (cA .int, 40, .inl fun _ => 0) := rfl
theorem ce0_1312_0 {cA : ZCA} {ad : ZAd} : ce cA ad mem0 (1312, 0) = .inl (cA .int, 40, .inl fun _ => 0) := rfl
theorem ce0_1313_0 {cA : ZCA} {ad : ZAd} : ce cA ad mem0 (1313, 0) = .inl (cA .byte, 120, .inl fun _ => 0) := rfl
theorem ce0_1319_0 {cA : ZCA} {ad : ZAd} : ce cA ad mem0 (1319, 0) = .inl (cA .byte, 260, .inl fun _ => 0) := rfl
theorem ce0_1320_0 {cA : ZCA} {ad : ZAd} : ce cA ad mem0 (1320, 0) = .inl (cA .int, 260, .inl fun _ => 0) := rfl
theorem ce0_1321_0 {cA : ZCA} {ad : ZAd} : ce cA ad mem0 (1321, 0) = .inl (cA .int, 2, .inl fun _ => 0) := rfl
theorem ce0_1322_0 {cA : ZCA} {ad : ZAd} : ce cA ad mem0 (1322, 0) = .inl (cA .short, 122, .inl fun _ => 0) := rfl
theorem ce0_1323_0 {cA : ZCA} {ad : ZAd} : ce cA ad mem0 (1323, 0) = .inl (cA .short, 122, .inl fun _ => 0) := rfl
theorem ce0_1324_0 {cA : ZCA} {ad : ZAd} : ce cA ad mem0 (1324, 0) = .inl (cA .int, 6, .inl fun _ => 0) := rfl
theorem ce0_1325_0 {cA : ZCA} {ad : ZAd} : ce cA ad mem0 (1325, 0) = .inl (cA .int, 130, .inl fun _ => 0) := rfl
theorem ce0_1327_0 {cA : ZCA} {ad : ZAd} : ce cA ad mem0 (1327, 0) = .inl (cA .int, 7, .inl fun _ => 0) := rfl
theorem ce0_1328_0 {cA : ZCA} {ad : ZAd} : ce cA ad mem0 (1328, 0) = .inl (cA .int, 7, .inl fun _ => 0) := rfl
theorem ce0_1337_0 {cA : ZCA} {ad : ZAd} : ce cA ad mem0 (1337, 0) = .inl (cA .int, 5, .inl fun _ => 0) := rfl
theorem ce0_1338_0 {cA : ZCA} {ad : ZAd} : ce cA ad mem0 (1338, 0) = .inl (cA .int, 5, .inl fun _ => 0) := rfl
theorem ce0_1342_0 {cA : ZCA} {ad : ZAd} : ce cA ad mem0 (1342, 0) = .inl (cA .int, 429, .inl fun _ => 0) := rfl
theorem ce0_1343_0 {cA : ZCA} {ad : ZAd} : ce cA ad mem0 (1343, 0) = .inl (cA .int, 429, .inl fun _ => 0) := rfl
theorem ce0_1347_0 {cA : ZCA} {ad : ZAd} : ce cA ad mem0 (1347, 0) = .inl (cA .int, 14, .inl fun _ => 0) := rfl
theorem ce0_1350_0 {cA : ZCA} {ad : ZAd} : ce cA ad mem0 (1350, 0) = .inl (cA .int, 5, .inl fun _ => 0) := rfl
theorem ce0_1353_0 {cA : ZCA} {ad : ZAd} : ce cA ad mem0 (1353, 0) = .inl (cA .int, 7, .inl fun _ => 0) := rfl
theorem ce0_1354_0 {cA : ZCA} {ad : ZAd} : ce cA ad mem0 (1354, 0) = .inl (cA .int, 5, .inl fun _ => 0) := rfl
theorem ce0_1356_0 {cA : ZCA} {ad : ZAd} : ce cA ad mem0 (1356, 0) = .inl (cA .int, 50, .inl fun _ => 0) := rfl
theorem ce0_1358_0 {cA : ZCA} {ad : ZAd} : ce cA ad mem0 (1358, 0) = .inl (cA .int, 24, .inl fun _ => 0) := rfl
theorem ce0_1360_0 {cA : ZCA} {ad : ZAd} : ce cA ad mem0 (1360, 0) = .inl (cA .int, 6, .inl fun _ => 0) := rfl
theorem ce0_1361_0 {cA : ZCA} {ad : ZAd} : ce cA ad mem0 (1361, 0) = .inl (cA .long, 360, .inr (.inl fun _ => 0)) := rfl
theorem ce0_1362_0 {cA : ZCA} {ad : ZAd} : ce cA ad mem0 (1362, 0) = .inl (cA .long, 60, .inr (.inl fun _ => 0)) := rfl
abbrev Wad (cA : ZCA) (ad : ZAd) : va_W := [((ad 11 0), .inr (11, [.ref (ad 2 0), .ref (ad 7 0), .ref (ad 8 0), .ref (ad 6 0), .ref (ad 9 0), .ref (ad 5 0), .ref (ad 1 0), .ref (ad 0 0), .ref (ad 1208 0), .ref (ad 4 0)])),
  ((ad 2 0), .inr (2, [.ref (ad 300 0), .ref (ad 301 0), .ref (ad 302 0), .ref (ad 303 0), .int 0, .int 0, .int 0, .ref (ad 3 0)])),
  ((ad 300 0), .inl (cA .int, 7, .inl fun _ => 0)),
  ((ad 301 0), .inl (cA .int, 7, .inl fun _ => 0)),
  ((ad 302 0), .inl (cA .int, 7, .inl fun _ => 0)),
  ((ad 303 0), .inl (cA .int, 14, .inl (upd (upd (upd (upd (upd (upd (upd (upd (upd (upd (upd (upd (upd (upd (fun _ => 0) ((0 : Int32)).toNatClampNeg (0 : Int32)) ((1 : Int32)).toNatClampNeg (0 : Int32)) ((2 : Int32)).toNatClampNeg (0 : Int32)) ((3 : Int32)).toNatClampNeg (0 : Int32)) ((4 : Int32)).toNatClampNeg (20 : Int32)) ((5 : Int32)).toNatClampNeg (1 : Int32)) ((6 : Int32)).toNatClampNeg (9 : Int32)) ((7 : Int32)).toNatClampNeg (4 : Int32)) ((8 : Int32)).toNatClampNeg (3 : Int32)) ((9 : Int32)).toNatClampNeg (3 : Int32)) ((10 : Int32)).toNatClampNeg (3 : Int32)) ((11 : Int32)).toNatClampNeg (1 : Int32)) ((12 : Int32)).toNatClampNeg (1 : Int32)) ((13 : Int32)).toNatClampNeg (2 : Int32)))),
  ((ad 3 0), .inr (3, [.ref (ad 400 0), .ref (ad 401 0), .ref (ad 402 0), .int 0, .int 0])),
  ((ad 400 0), .inl (cA .int, 128, .inl fun _ => 0)),
  ((ad 401 0), .inl (cA .int, 128, .inl fun _ => 0)),
  ((ad 402 0), .inl (cA .int, 128, .inl fun _ => 0)),
  ((ad 7 0), .inr (7, [.ref (ad 800 0), .ref (ad 801 0), .ref (ad 802 0), .int 0, .int 0, .int 0, .int 0, .int 0, .int 0, .int 0, .int 0, .int 0, .int 0, .int 0])),
  ((ad 800 0), .inl (cA .int, 7, .inl fun _ => 0)),
  ((ad 801 0), .inl (cA .int, 7, .inl fun _ => 0)),
  ((ad 802 0), .inl (cA .int, 6, .inl fun _ => 0)),
  ((ad 8 0), .inr (8, [.ref (ad 900 0), .ref (ad 901 0), .ref (ad 902 0), .int 0, .int 0, .int 0, .int 0, .int 0, .int 0])),
  ((ad 900 0), .inl (cA (.object "OnOneBreath$Scene"), 6, .inr (.inr (.inr (.inr (va_up (va_up (va_up (va_up (va_up (va_up (fun _ => none) ((0 : Int32)).toNatClampNeg (some (ad 7 1))) ((1 : Int32)).toNatClampNeg (some (ad 7 2))) ((2 : Int32)).toNatClampNeg (some (ad 7 3))) ((3 : Int32)).toNatClampNeg (some (ad 7 4))) ((4 : Int32)).toNatClampNeg (some (ad 7 5))) ((5 : Int32)).toNatClampNeg (some (ad 7 6)))))))),
  ((ad 901 0), .inl (cA .int, 5, .inl fun _ => 0)),
  ((ad 902 0), .inl (cA .int, 5, .inl fun _ => 0)),
  ((ad 7 1), .inr (7, [.ref (ad 800 1), .ref (ad 801 1), .ref (ad 802 1), .int 0, .int 0, .int 0, .int 0, .int 0, .int 0, .int 0, .int 0, .int 0, .int 0, .int 0])),
  ((ad 800 1), .inl (cA .int, 7, .inl fun _ => 0)),
  ((ad 801 1), .inl (cA .int, 7, .inl fun _ => 0)),
  ((ad 802 1), .inl (cA .int, 6, .inl fun _ => 0)),
  ((ad 7 2), .inr (7, [.ref (ad 800 2), .ref (ad 801 2), .ref (ad 802 2), .int 0, .int 0, .int 0, .int 0, .int 0, .int 0, .int 0, .int 0, .int 0, .int 0, .int 0])),
  ((ad 800 2), .inl (cA .int, 7, .inl fun _ => 0)),
  ((ad 801 2), .inl (cA .int, 7, .inl fun _ => 0)),
  ((ad 802 2), .inl (cA .int, 6, .inl fun _ => 0)),
  ((ad 7 3), .inr (7, [.ref (ad 800 3), .ref (ad 801 3), .ref (ad 802 3), .int 0, .int 0, .int 0, .int 0, .int 0, .int 0, .int 0, .int 0, .int 0, .int 0, .int 0])),
  ((ad 800 3), .inl (cA .int, 7, .inl fun _ => 0)),
  ((ad 801 3), .inl (cA .int, 7, .inl fun _ => 0)),
  ((ad 802 3), .inl (cA .int, 6, .inl fun _ => 0)),
  ((ad 7 4), .inr (7, [.ref (ad 800 4), .ref (ad 801 4), .ref (ad 802 4), .int 0, .int 0, .int 0, .int 0, .int 0, .int 0, .int 0, .int 0, .int 0, .int 0, .int 0])),
  ((ad 800 4), .inl (cA .int, 7, .inl fun _ => 0)),
  ((ad 801 4), .inl (cA .int, 7, .inl fun _ => 0)),
  ((ad 802 4), .inl (cA .int, 6, .inl fun _ => 0)),
  ((ad 7 5), .inr (7, [.ref (ad 800 5), .ref (ad 801 5), .ref (ad 802 5), .int 0, .int 0, .int 0, .int 0, .int 0, .int 0, .int 0, .int 0, .int 0, .int 0, .int 0])),
  ((ad 800 5), .inl (cA .int, 7, .inl fun _ => 0)),
  ((ad 801 5), .inl (cA .int, 7, .inl fun _ => 0)),
  ((ad 802 5), .inl (cA .int, 6, .inl fun _ => 0)),
  ((ad 7 6), .inr (7, [.ref (ad 800 6), .ref (ad 801 6), .ref (ad 802 6), .int 0, .int 0, .int 0, .int 0, .int 0, .int 0, .int 0, .int 0, .int 0, .int 0, .int 0])),
  ((ad 800 6), .inl (cA .int, 7, .inl fun _ => 0)),
  ((ad 801 6), .inl (cA .int, 7, .inl fun _ => 0)),
  ((ad 802 6), .inl (cA .int, 6, .inl fun _ => 0)),
  ((ad 6 0), .inr (6, [.ref (ad 700 0), .ref (ad 701 0), .int 0, .int 0])),
  ((ad 700 0), .inl (cA .int, 183, .inl fun _ => 0)),
  ((ad 701 0), .inl (cA .int, 183, .inl fun _ => 0)),
  ((ad 9 0), .inr (9, [.ref (ad 1000 0), .ref (ad 1001 0), .ref (ad 1002 0), .ref (ad 1003 0)])),
  ((ad 1000 0), .inl (cA .int, 2, .inl fun _ => 0)),
  ((ad 1001 0), .inl (cA .int, 2, .inl fun _ => 0)),
  ((ad 1002 0), .inl (cA .int, 2, .inl fun _ => 0)),
  ((ad 1003 0), .inl (cA .int, 14, .inl fun _ => 0)),
  ((ad 5 0), .inr (5, [.ref (ad 600 0), .ref (ad 601 0), .int 0, .int 0, .int 0])),
  ((ad 600 0), .inl (cA .int, 5, .inl fun _ => 0)),
  ((ad 601 0), .inl (cA .int, 5, .inl fun _ => 0)),
  ((ad 1 0), .inr (1, [.ref (ad 200 0), .ref (ad 201 0), .ref (ad 202 0), .ref (ad 203 0), .int 0, .int 0])),
  ((ad 200 0), .inl (cA .int, 40, .inl fun _ => 0)),
  ((ad 201 0), .inl (cA .int, 40, .inl fun _ => 0)),
  ((ad 202 0), .inl (cA .int, 40, .inl fun _ => 0)),
  ((ad 203 0), .inl (cA .int, 40, .inl fun _ => 0)),
  ((ad 0 0), .inr (0, [.ref (ad 100 0), .ref (ad 101 0), .int 0, .int 0])),
  ((ad 100 0), .inl (cA .int, 50, .inl fun _ => 0)),
  ((ad 101 0), .inl (cA .int, 24, .inl fun _ => 0)),
  ((ad 1208 0), .inl (cA (.object "OnOneBreath$Shelf"), 6, .inr (.inr (.inr (.inr (va_up (va_up (va_up (va_up (va_up (va_up (fun _ => none) ((0 : Int32)).toNatClampNeg (some (ad 10 0))) ((1 : Int32)).toNatClampNeg (some (ad 10 1))) ((2 : Int32)).toNatClampNeg (some (ad 10 2))) ((3 : Int32)).toNatClampNeg (some (ad 10 3))) ((4 : Int32)).toNatClampNeg (some (ad 10 4))) ((5 : Int32)).toNatClampNeg (some (ad 10 5)))))))),
  ((ad 4 0), .inr (4, [.ref (ad 500 0), .int 0, .int 0, .int 0, .ref (ad 3 1)])),
  ((ad 500 0), .inl (cA .int, 120, .inl fun _ => 0)),
  ((ad 3 1), .inr (3, [.ref (ad 400 1), .ref (ad 401 1), .ref (ad 402 1), .int 0, .int 0])),
  ((ad 400 1), .inl (cA .int, 128, .inl fun _ => 0)),
  ((ad 401 1), .inl (cA .int, 128, .inl fun _ => 0)),
  ((ad 402 1), .inl (cA .int, 128, .inl fun _ => 0)),
  ((ad 10 0), .inr (10, [.ref (ad 1100 0), .int 0, .int 0, .int 0, .int 0])),
  ((ad 1100 0), .inl (cA .long, 60, .inr (.inl fun _ => 0))),
  ((ad 10 1), .inr (10, [.ref (ad 1100 1), .int 0, .int 0, .int 0, .int 0])),
  ((ad 1100 1), .inl (cA .long, 60, .inr (.inl fun _ => 0))),
  ((ad 10 2), .inr (10, [.ref (ad 1100 2), .int 0, .int 0, .int 0, .int 0])),
  ((ad 1100 2), .inl (cA .long, 60, .inr (.inl fun _ => 0))),
  ((ad 10 3), .inr (10, [.ref (ad 1100 3), .int 0, .int 0, .int 0, .int 0])),
  ((ad 1100 3), .inl (cA .long, 60, .inr (.inl fun _ => 0))),
  ((ad 10 4), .inr (10, [.ref (ad 1100 4), .int 0, .int 0, .int 0, .int 0])),
  ((ad 1100 4), .inl (cA .long, 60, .inr (.inl fun _ => 0))),
  ((ad 10 5), .inr (10, [.ref (ad 1100 5), .int 0, .int 0, .int 0, .int 0])),
  ((ad 1100 5), .inl (cA .long, 60, .inr (.inl fun _ => 0))),
  ((ad 12 0), .inr (12, [.int 0, .int 0, .ref (ad 1302 0), .ref (ad 1303 0), .ref (ad 1304 0), .ref (ad 1305 0), .ref (ad 1306 0), .int 0, .int 0, .ref (ad 1309 0), .ref (ad 1310 0), .ref (ad 1311 0), .ref (ad 1312 0), .ref (ad 1313 0), .int 0, .int 0, .int 0, .int 0, .int 0, .ref (ad 1319 0), .ref (ad 1320 0), .ref (ad 1321 0), .ref (ad 1322 0), .ref (ad 1323 0), .ref (ad 1324 0), .ref (ad 1325 0), .int 0, .ref (ad 1327 0), .ref (ad 1328 0), .int 0, .int 0, .int 0, .int 0, .int 0, .int 0, .int 0, .int 0, .ref (ad 1337 0), .ref (ad 1338 0), .int 0, .int 0, .int 0, .ref (ad 1342 0), .ref (ad 1343 0), .int 0, .ref (ad 1345 0), .ref (ad 1346 0), .ref (ad 1347 0), .ref (ad 1348 0), .int 0, .ref (ad 1350 0), .int 0, .int 0, .ref (ad 1353 0), .ref (ad 1354 0), .int 0, .ref (ad 1356 0), .int 0, .ref (ad 1358 0), .ref (ad 1359 0), .ref (ad 1360 0), .ref (ad 1361 0), .ref (ad 1362 0)])),
  ((ad 1302 0), .inl (cA .int, 7, .inl fun _ => 0)),
  ((ad 1303 0), .inl (cA .int, 7, .inl fun _ => 0)),
  ((ad 1304 0), .inl (cA .int, 7, .inl fun _ => 0)),
  ((ad 1305 0), .inl (cA .int, 7, .inl fun _ => 0)),
  ((ad 1306 0), .inl (cA .int, 10, .inl (upd (upd (upd (upd (upd (upd (upd (upd (upd (upd (fun _ => 0) ((0 : Int32)).toNatClampNeg (20 : Int32)) ((1 : Int32)).toNatClampNeg (1 : Int32)) ((2 : Int32)).toNatClampNeg (9 : Int32)) ((3 : Int32)).toNatClampNeg (4 : Int32)) ((4 : Int32)).toNatClampNeg (3 : Int32)) ((5 : Int32)).toNatClampNeg (3 : Int32)) ((6 : Int32)).toNatClampNeg (3 : Int32)) ((7 : Int32)).toNatClampNeg (1 : Int32)) ((8 : Int32)).toNatClampNeg (1 : Int32)) ((9 : Int32)).toNatClampNeg (2 : Int32)))),
  ((ad 1309 0), .inl (cA .int, 40, .inl fun _ => 0)),
  ((ad 1310 0), .inl (cA .int, 40, .inl fun _ => 0)),
  ((ad 1311 0), .inl (cA .int, 40, .inl fun _ => 0)),
  ((ad 1312 0), .inl (cA .int, 40, .inl fun _ => 0)),
  ((ad 1313 0), .inl (cA .byte, 120, .inl fun _ => 0)),
  ((ad 1319 0), .inl (cA .byte, 260, .inl fun _ => 0)),
  ((ad 1320 0), .inl (cA .int, 260, .inl fun _ => 0)),
  ((ad 1321 0), .inl (cA .int, 2, .inl fun _ => 0)),
  ((ad 1322 0), .inl (cA .short, 122, .inl fun _ => 0)),
  ((ad 1323 0), .inl (cA .short, 122, .inl fun _ => 0)),
  ((ad 1324 0), .inl (cA .int, 6, .inl fun _ => 0)),
  ((ad 1325 0), .inl (cA .int, 130, .inl fun _ => 0)),
  ((ad 1327 0), .inl (cA .int, 7, .inl fun _ => 0)),
  ((ad 1328 0), .inl (cA .int, 7, .inl fun _ => 0)),
  ((ad 1337 0), .inl (cA .int, 5, .inl fun _ => 0)),
  ((ad 1338 0), .inl (cA .int, 5, .inl fun _ => 0)),
  ((ad 1342 0), .inl (cA .int, 429, .inl fun _ => 0)),
  ((ad 1343 0), .inl (cA .int, 429, .inl fun _ => 0)),
  ((ad 1345 0), .inl (cA .int, 2, .inl (upd (upd (fun _ => 0) ((0 : Int32)).toNatClampNeg (0 : Int32)) ((1 : Int32)).toNatClampNeg (0 : Int32)))),
  ((ad 1346 0), .inl (cA .int, 2, .inl (upd (upd (fun _ => 0) ((0 : Int32)).toNatClampNeg (0 : Int32)) ((1 : Int32)).toNatClampNeg (0 : Int32)))),
  ((ad 1347 0), .inl (cA .int, 14, .inl fun _ => 0)),
  ((ad 1348 0), .inl (cA .int, 2, .inl (upd (upd (fun _ => 0) ((0 : Int32)).toNatClampNeg (0 : Int32)) ((1 : Int32)).toNatClampNeg (0 : Int32)))),
  ((ad 1350 0), .inl (cA .int, 5, .inl fun _ => 0)),
  ((ad 1353 0), .inl (cA .int, 7, .inl fun _ => 0)),
  ((ad 1354 0), .inl (cA .int, 5, .inl fun _ => 0)),
  ((ad 1356 0), .inl (cA .int, 50, .inl fun _ => 0)),
  ((ad 1358 0), .inl (cA .int, 24, .inl fun _ => 0)),
  ((ad 1359 0), .inl (cA .int, 6, .inl (upd (upd (upd (upd (upd (upd (fun _ => 0) ((0 : Int32)).toNatClampNeg (-1 : Int32)) ((1 : Int32)).toNatClampNeg (-1 : Int32)) ((2 : Int32)).toNatClampNeg (-1 : Int32)) ((3 : Int32)).toNatClampNeg (-1 : Int32)) ((4 : Int32)).toNatClampNeg (-1 : Int32)) ((5 : Int32)).toNatClampNeg (-1 : Int32)))),
  ((ad 1360 0), .inl (cA .int, 6, .inl fun _ => 0)),
  ((ad 1361 0), .inl (cA .long, 360, .inr (.inl fun _ => 0))),
  ((ad 1362 0), .inl (cA .long, 60, .inr (.inl fun _ => 0)))]
abbrev Wlv (cA : ZCA) (ad : ZAd) : va_W := [((ad 0 0), .inr (0, [.ref (ad 100 0), .ref (ad 101 0), .int 0, .int 0])),
  ((ad 1 0), .inr (1, [.ref (ad 200 0), .ref (ad 201 0), .ref (ad 202 0), .ref (ad 203 0), .int 0, .int 0])),
  ((ad 2 0), .inr (2, [.ref (ad 300 0), .ref (ad 301 0), .ref (ad 302 0), .ref (ad 303 0), .int 0, .int 0, .int 0, .ref (ad 3 0)])),
  ((ad 3 0), .inr (3, [.ref (ad 400 0), .ref (ad 401 0), .ref (ad 402 0), .int 0, .int 0])),
  ((ad 3 1), .inr (3, [.ref (ad 400 1), .ref (ad 401 1), .ref (ad 402 1), .int 0, .int 0])),
  ((ad 4 0), .inr (4, [.ref (ad 500 0), .int 0, .int 0, .int 0, .ref (ad 3 1)])),
  ((ad 5 0), .inr (5, [.ref (ad 600 0), .ref (ad 601 0), .int 0, .int 0, .int 0])),
  ((ad 6 0), .inr (6, [.ref (ad 700 0), .ref (ad 701 0), .int 0, .int 0])),
  ((ad 7 0), .inr (7, [.ref (ad 800 0), .ref (ad 801 0), .ref (ad 802 0), .int 0, .int 0, .int 0, .int 0, .int 0, .int 0, .int 0, .int 0, .int 0, .int 0, .int 0])),
  ((ad 7 1), .inr (7, [.ref (ad 800 1), .ref (ad 801 1), .ref (ad 802 1), .int 0, .int 0, .int 0, .int 0, .int 0, .int 0, .int 0, .int 0, .int 0, .int 0, .int 0])),
  ((ad 7 2), .inr (7, [.ref (ad 800 2), .ref (ad 801 2), .ref (ad 802 2), .int 0, .int 0, .int 0, .int 0, .int 0, .int 0, .int 0, .int 0, .int 0, .int 0, .int 0])),
  ((ad 7 3), .inr (7, [.ref (ad 800 3), .ref (ad 801 3), .ref (ad 802 3), .int 0, .int 0, .int 0, .int 0, .int 0, .int 0, .int 0, .int 0, .int 0, .int 0, .int 0])),
  ((ad 7 4), .inr (7, [.ref (ad 800 4), .ref (ad 801 4), .ref (ad 802 4), .int 0, .int 0, .int 0, .int 0, .int 0, .int 0, .int 0, .int 0, .int 0, .int 0, .int 0])),
  ((ad 7 5), .inr (7, [.ref (ad 800 5), .ref (ad 801 5), .ref (ad 802 5), .int 0, .int 0, .int 0, .int 0, .int 0, .int 0, .int 0, .int 0, .int 0, .int 0, .int 0])),
  ((ad 7 6), .inr (7, [.ref (ad 800 6), .ref (ad 801 6), .ref (ad 802 6), .int 0, .int 0, .int 0, .int 0, .int 0, .int 0, .int 0, .int 0, .int 0, .int 0, .int 0])),
  ((ad 8 0), .inr (8, [.ref (ad 900 0), .ref (ad 901 0), .ref (ad 902 0), .int 0, .int 0, .int 0, .int 0, .int 0, .int 0])),
  ((ad 9 0), .inr (9, [.ref (ad 1000 0), .ref (ad 1001 0), .ref (ad 1002 0), .ref (ad 1003 0)])),
  ((ad 10 0), .inr (10, [.ref (ad 1100 0), .int 0, .int 0, .int 0, .int 0])),
  ((ad 10 1), .inr (10, [.ref (ad 1100 1), .int 0, .int 0, .int 0, .int 0])),
  ((ad 10 2), .inr (10, [.ref (ad 1100 2), .int 0, .int 0, .int 0, .int 0])),
  ((ad 10 3), .inr (10, [.ref (ad 1100 3), .int 0, .int 0, .int 0, .int 0])),
  ((ad 10 4), .inr (10, [.ref (ad 1100 4), .int 0, .int 0, .int 0, .int 0])),
  ((ad 10 5), .inr (10, [.ref (ad 1100 5), .int 0, .int 0, .int 0, .int 0])),
  ((ad 11 0), .inr (11, [.ref (ad 2 0), .ref (ad 7 0), .ref (ad 8 0), .ref (ad 6 0), .ref (ad 9 0), .ref (ad 5 0), .ref (ad 1 0), .ref (ad 0 0), .ref (ad 1208 0), .ref (ad 4 0)])),
  ((ad 12 0), .inr (12, [.int 0, .int 0, .ref (ad 1302 0), .ref (ad 1303 0), .ref (ad 1304 0), .ref (ad 1305 0), .ref (ad 1306 0), .int 0, .int 0, .ref (ad 1309 0), .ref (ad 1310 0), .ref (ad 1311 0), .ref (ad 1312 0), .ref (ad 1313 0), .int 0, .int 0, .int 0, .int 0, .int 0, .ref (ad 1319 0), .ref (ad 1320 0), .ref (ad 1321 0), .ref (ad 1322 0), .ref (ad 1323 0), .ref (ad 1324 0), .ref (ad 1325 0), .int 0, .ref (ad 1327 0), .ref (ad 1328 0), .int 0, .int 0, .int 0, .int 0, .int 0, .int 0, .int 0, .int 0, .ref (ad 1337 0), .ref (ad 1338 0), .int 0, .int 0, .int 0, .ref (ad 1342 0), .ref (ad 1343 0), .int 0, .ref (ad 1345 0), .ref (ad 1346 0), .ref (ad 1347 0), .ref (ad 1348 0), .int 0, .ref (ad 1350 0), .int 0, .int 0, .ref (ad 1353 0), .ref (ad 1354 0), .int 0, .ref (ad 1356 0), .int 0, .ref (ad 1358 0), .ref (ad 1359 0), .ref (ad 1360 0), .ref (ad 1361 0), .ref (ad 1362 0)])),
  ((ad 100 0), .inl (cA .int, 50, .inl fun _ => 0)),
  ((ad 101 0), .inl (cA .int, 24, .inl fun _ => 0)),
  ((ad 200 0), .inl (cA .int, 40, .inl fun _ => 0)),
  ((ad 201 0), .inl (cA .int, 40, .inl fun _ => 0)),
  ((ad 202 0), .inl (cA .int, 40, .inl fun _ => 0)),
  ((ad 203 0), .inl (cA .int, 40, .inl fun _ => 0)),
  ((ad 300 0), .inl (cA .int, 7, .inl fun _ => 0)),
  ((ad 301 0), .inl (cA .int, 7, .inl fun _ => 0)),
  ((ad 302 0), .inl (cA .int, 7, .inl fun _ => 0)),
  ((ad 303 0), .inl (cA .int, 14, .inl (upd (upd (upd (upd (upd (upd (upd (upd (upd (upd (upd (upd (upd (upd (fun _ => 0) ((0 : Int32)).toNatClampNeg (0 : Int32)) ((1 : Int32)).toNatClampNeg (0 : Int32)) ((2 : Int32)).toNatClampNeg (0 : Int32)) ((3 : Int32)).toNatClampNeg (0 : Int32)) ((4 : Int32)).toNatClampNeg (20 : Int32)) ((5 : Int32)).toNatClampNeg (1 : Int32)) ((6 : Int32)).toNatClampNeg (9 : Int32)) ((7 : Int32)).toNatClampNeg (4 : Int32)) ((8 : Int32)).toNatClampNeg (3 : Int32)) ((9 : Int32)).toNatClampNeg (3 : Int32)) ((10 : Int32)).toNatClampNeg (3 : Int32)) ((11 : Int32)).toNatClampNeg (1 : Int32)) ((12 : Int32)).toNatClampNeg (1 : Int32)) ((13 : Int32)).toNatClampNeg (2 : Int32)))),
  ((ad 400 0), .inl (cA .int, 128, .inl fun _ => 0)),
  ((ad 400 1), .inl (cA .int, 128, .inl fun _ => 0)),
  ((ad 401 0), .inl (cA .int, 128, .inl fun _ => 0)),
  ((ad 401 1), .inl (cA .int, 128, .inl fun _ => 0)),
  ((ad 402 0), .inl (cA .int, 128, .inl fun _ => 0)),
  ((ad 402 1), .inl (cA .int, 128, .inl fun _ => 0)),
  ((ad 500 0), .inl (cA .int, 120, .inl fun _ => 0)),
  ((ad 600 0), .inl (cA .int, 5, .inl fun _ => 0)),
  ((ad 601 0), .inl (cA .int, 5, .inl fun _ => 0)),
  ((ad 700 0), .inl (cA .int, 183, .inl fun _ => 0)),
  ((ad 701 0), .inl (cA .int, 183, .inl fun _ => 0)),
  ((ad 800 0), .inl (cA .int, 7, .inl fun _ => 0)),
  ((ad 800 1), .inl (cA .int, 7, .inl fun _ => 0)),
  ((ad 800 2), .inl (cA .int, 7, .inl fun _ => 0)),
  ((ad 800 3), .inl (cA .int, 7, .inl fun _ => 0)),
  ((ad 800 4), .inl (cA .int, 7, .inl fun _ => 0)),
  ((ad 800 5), .inl (cA .int, 7, .inl fun _ => 0)),
  ((ad 800 6), .inl (cA .int, 7, .inl fun _ => 0)),
  ((ad 801 0), .inl (cA .int, 7, .inl fun _ => 0)),
  ((ad 801 1), .inl (cA .int, 7, .inl fun _ => 0)),
  ((ad 801 2), .inl (cA .int, 7, .inl fun _ => 0)),
  ((ad 801 3), .inl (cA .int, 7, .inl fun _ => 0)),
  ((ad 801 4), .inl (cA .int, 7, .inl fun _ => 0)),
  ((ad 801 5), .inl (cA .int, 7, .inl fun _ => 0)),
  ((ad 801 6), .inl (cA .int, 7, .inl fun _ => 0)),
  ((ad 802 0), .inl (cA .int, 6, .inl fun _ => 0)),
  ((ad 802 1), .inl (cA .int, 6, .inl fun _ => 0)),
  ((ad 802 2), .inl (cA .int, 6, .inl fun _ => 0)),
  ((ad 802 3), .inl (cA .int, 6, .inl fun _ => 0)),
  ((ad 802 4), .inl (cA .int, 6, .inl fun _ => 0)),
  ((ad 802 5), .inl (cA .int, 6, .inl fun _ => 0)),
  ((ad 802 6), .inl (cA .int, 6, .inl fun _ => 0)),
  ((ad 900 0), .inl (cA (.object "OnOneBreath$Scene"), 6, .inr (.inr (.inr (.inr (va_up (va_up (va_up (va_up (va_up (va_up (fun _ => none) ((0 : Int32)).toNatClampNeg (some (ad 7 1))) ((1 : Int32)).toNatClampNeg (some (ad 7 2))) ((2 : Int32)).toNatClampNeg (some (ad 7 3))) ((3 : Int32)).toNatClampNeg (some (ad 7 4))) ((4 : Int32)).toNatClampNeg (some (ad 7 5))) ((5 : Int32)).toNatClampNeg (some (ad 7 6)))))))),
  ((ad 901 0), .inl (cA .int, 5, .inl fun _ => 0)),
  ((ad 902 0), .inl (cA .int, 5, .inl fun _ => 0)),
  ((ad 1000 0), .inl (cA .int, 2, .inl fun _ => 0)),
  ((ad 1001 0), .inl (cA .int, 2, .inl fun _ => 0)),
  ((ad 1002 0), .inl (cA .int, 2, .inl fun _ => 0)),
  ((ad 1003 0), .inl (cA .int, 14, .inl fun _ => 0)),
  ((ad 1100 0), .inl (cA .long, 60, .inr (.inl fun _ => 0))),
  ((ad 1100 1), .inl (cA .long, 60, .inr (.inl fun _ => 0))),
  ((ad 1100 2), .inl (cA .long, 60, .inr (.inl fun _ => 0))),
  ((ad 1100 3), .inl (cA .long, 60, .inr (.inl fun _ => 0))),
  ((ad 1100 4), .inl (cA .long, 60, .inr (.inl fun _ => 0))),
  ((ad 1100 5), .inl (cA .long, 60, .inr (.inl fun _ => 0))),
  ((ad 1208 0), .inl (cA (.object "OnOneBreath$Shelf"), 6, .inr (.inr (.inr (.inr (va_up (va_up (va_up (va_up (va_up (va_up (fun _ => none) ((0 : Int32)).toNatClampNeg (some (ad 10 0))) ((1 : Int32)).toNatClampNeg (some (ad 10 1))) ((2 : Int32)).toNatClampNeg (some (ad 10 2))) ((3 : Int32)).toNatClampNeg (some (ad 10 3))) ((4 : Int32)).toNatClampNeg (some (ad 10 4))) ((5 : Int32)).toNatClampNeg (some (ad 10 5)))))))),
  ((ad 1302 0), .inl (cA .int, 7, .inl fun _ => 0)),
  ((ad 1303 0), .inl (cA .int, 7, .inl fun _ => 0)),
  ((ad 1304 0), .inl (cA .int, 7, .inl fun _ => 0)),
  ((ad 1305 0), .inl (cA .int, 7, .inl fun _ => 0)),
  ((ad 1306 0), .inl (cA .int, 10, .inl (upd (upd (upd (upd (upd (upd (upd (upd (upd (upd (fun _ => 0) ((0 : Int32)).toNatClampNeg (20 : Int32)) ((1 : Int32)).toNatClampNeg (1 : Int32)) ((2 : Int32)).toNatClampNeg (9 : Int32)) ((3 : Int32)).toNatClampNeg (4 : Int32)) ((4 : Int32)).toNatClampNeg (3 : Int32)) ((5 : Int32)).toNatClampNeg (3 : Int32)) ((6 : Int32)).toNatClampNeg (3 : Int32)) ((7 : Int32)).toNatClampNeg (1 : Int32)) ((8 : Int32)).toNatClampNeg (1 : Int32)) ((9 : Int32)).toNatClampNeg (2 : Int32)))),
  ((ad 1309 0), .inl (cA .int, 40, .inl fun _ => 0)),
  ((ad 1310 0), .inl (cA .int, 40, .inl fun _ => 0)),
  ((ad 1311 0), .inl (cA .int, 40, .inl fun _ => 0)),
  ((ad 1312 0), .inl (cA .int, 40, .inl fun _ => 0)),
  ((ad 1313 0), .inl (cA .byte, 120, .inl fun _ => 0)),
  ((ad 1319 0), .inl (cA .byte, 260, .inl fun _ => 0)),
  ((ad 1320 0), .inl (cA .int, 260, .inl fun _ => 0)),
  ((ad 1321 0), .inl (cA .int, 2, .inl fun _ => 0)),
  ((ad 1322 0), .inl (cA .short, 122, .inl fun _ => 0)),
  ((ad 1323 0), .inl (cA .short, 122, .inl fun _ => 0)),
  ((ad 1324 0), .inl (cA .int, 6, .inl fun _ => 0)),
  ((ad 1325 0), .inl (cA .int, 130, .inl fun _ => 0)),
  ((ad 1327 0), .inl (cA .int, 7, .inl fun _ => 0)),
  ((ad 1328 0), .inl (cA .int, 7, .inl fun _ => 0)),
  ((ad 1337 0), .inl (cA .int, 5, .inl fun _ => 0)),
  ((ad 1338 0), .inl (cA .int, 5, .inl fun _ => 0)),
  ((ad 1342 0), .inl (cA .int, 429, .inl fun _ => 0)),
  ((ad 1343 0), .inl (cA .int, 429, .inl fun _ => 0)),
  ((ad 1345 0), .inl (cA .int, 2, .inl (upd (upd (fun _ => 0) ((0 : Int32)).toNatClampNeg (0 : Int32)) ((1 : Int32)).toNatClampNeg (0 : Int32)))),
  ((ad 1346 0), .inl (cA .int, 2, .inl (upd (upd (fun _ => 0) ((0 : Int32)).toNatClampNeg (0 : Int32)) ((1 : Int32)).toNatClampNeg (0 : Int32)))),
  ((ad 1347 0), .inl (cA .int, 14, .inl fun _ => 0)),
  ((ad 1348 0), .inl (cA .int, 2, .inl (upd (upd (fun _ => 0) ((0 : Int32)).toNatClampNeg (0 : Int32)) ((1 : Int32)).toNatClampNeg (0 : Int32)))),
  ((ad 1350 0), .inl (cA .int, 5, .inl fun _ => 0)),
  ((ad 1353 0), .inl (cA .int, 7, .inl fun _ => 0)),
  ((ad 1354 0), .inl (cA .int, 5, .inl fun _ => 0)),
  ((ad 1356 0), .inl (cA .int, 50, .inl fun _ => 0)),
  ((ad 1358 0), .inl (cA .int, 24, .inl fun _ => 0)),
  ((ad 1359 0), .inl (cA .int, 6, .inl (upd (upd (upd (upd (upd (upd (fun _ => 0) ((0 : Int32)).toNatClampNeg (-1 : Int32)) ((1 : Int32)).toNatClampNeg (-1 : Int32)) ((2 : Int32)).toNatClampNeg (-1 : Int32)) ((3 : Int32)).toNatClampNeg (-1 : Int32)) ((4 : Int32)).toNatClampNeg (-1 : Int32)) ((5 : Int32)).toNatClampNeg (-1 : Int32)))),
  ((ad 1360 0), .inl (cA .int, 6, .inl fun _ => 0)),
  ((ad 1361 0), .inl (cA .long, 360, .inr (.inl fun _ => 0))),
  ((ad 1362 0), .inl (cA .long, 60, .inr (.inl fun _ => 0)))]
def prm : List Nat := [58, 53, 1, 6, 64, 62, 50, 42, 10, 18, 22, 26, 30, 34, 38, 14, 45, 68, 70, 72, 74, 76, 78, 0, 80, 59, 60, 54, 55, 56, 57, 2, 3, 4, 5, 7, 65, 8, 66, 9, 67, 63, 51, 52, 43, 44, 11, 19, 23, 27, 31, 35, 39, 12, 20, 24, 28, 32, 36, 40, 13, 21, 25, 29, 33, 37, 41, 15, 16, 17, 46, 47, 48, 49, 69, 71, 73, 75, 77, 79, 61, 81, 82, 83, 84, 85, 86, 87, 88, 89, 90, 91, 92, 93, 94, 95, 96, 97, 98, 99, 100, 101, 102, 103, 104, 105, 106, 107, 108, 109, 110, 111, 112, 113, 114, 115, 116]
theorem P_alt {D : va_G} {A : Nat → Prop} {ws : va_W} {a : Nat} {e e2 : va_E} {H : Heap} (k : Nat) (hP : va_P D vwCl ws H) (hD : va_D A ws) (hk : ws[k]? = some (a, e)) (h : va_at D vwCl (a, e) H → va_at D vwCl (a, e2) H) : va_P D vwCl (ws.set k (a, e2)) H ∧ va_D A (ws.set k (a, e2)) := ⟨hP.set hD hk (h (hP k _ hk)) (fun _ _ => rfl), hD.set hk⟩
theorem arrV_cg {c : ClassId} {N : Nat} {f g : Nat → Value} (h : ∀ j, j < N → f j = g j) : arrV c N f = arrV c N g := by
  have e : (fun j : Fin N => f j.val) = fun j => g j.val := funext fun j => h j.val j.isLt
  unfold arrV
  rw [e]
theorem atc_int {D : va_G} {a : Nat} {H : Heap} {c : ClassId} {N : Nat} {f g : Nat → Int32} (h : ∀ j, j < N → f j = g j) (h1 : va_at D vwCl (a, .inl (c, N, .inl f)) H) : va_at D vwCl (a, .inl (c, N, .inl g)) H := by
  have h2 : H[a]? = some (arrV c N fun j => .int (f j)) := h1
  show H[a]? = some (arrV c N fun j => .int (g j))
  rw [h2, arrV_cg fun j hj => by rw [h j hj]]
theorem atc_ref {D : va_G} {a : Nat} {H : Heap} {c : ClassId} {N : Nat} {f g : Nat → Option Nat} (h : ∀ j, j < N → f j = g j) (h1 : va_at D vwCl (a, .inl (c, N, .inr (.inr (.inr (.inr f))))) H) : va_at D vwCl (a, .inl (c, N, .inr (.inr (.inr (.inr g))))) H := by
  have h2 : H[a]? = some (arrV c N fun j => va_rf (f j)) := h1
  show H[a]? = some (arrV c N fun j => va_rf (g j))
  rw [h2, arrV_cg fun j hj => by rw [h j hj]]
abbrev LVc0 : List (Nat × Nat) := [(0, 0), (1, 0), (2, 0), (3, 0), (3, 1), (4, 0), (5, 0), (6, 0), (7, 0), (7, 1), (7, 2), (7, 3), (7, 4)]
abbrev Wc0 (cA : ZCA) (ad : ZAd) : va_W := [((ad 0 0), .inr (0, [.ref (ad 100 0), .ref (ad 101 0), .int 0, .int 0])),
  ((ad 1 0), .inr (1, [.ref (ad 200 0), .ref (ad 201 0), .ref (ad 202 0), .ref (ad 203 0), .int 0, .int 0])),
  ((ad 2 0), .inr (2, [.ref (ad 300 0), .ref (ad 301 0), .ref (ad 302 0), .ref (ad 303 0), .int 0, .int 0, .int 0, .ref (ad 3 0)])),
  ((ad 3 0), .inr (3, [.ref (ad 400 0), .ref (ad 401 0), .ref (ad 402 0), .int 0, .int 0])),
  ((ad 3 1), .inr (3, [.ref (ad 400 1), .ref (ad 401 1), .ref (ad 402 1), .int 0, .int 0])),
  ((ad 4 0), .inr (4, [.ref (ad 500 0), .int 0, .int 0, .int 0, .ref (ad 3 1)])),
  ((ad 5 0), .inr (5, [.ref (ad 600 0), .ref (ad 601 0), .int 0, .int 0, .int 0])),
  ((ad 6 0), .inr (6, [.ref (ad 700 0), .ref (ad 701 0), .int 0, .int 0])),
  ((ad 7 0), .inr (7, [.ref (ad 800 0), .ref (ad 801 0), .ref (ad 802 0), .int 0, .int 0, .int 0, .int 0, .int 0, .int 0, .int 0, .int 0, .int 0, .int 0, .int 0])),
  ((ad 7 1), .inr (7, [.ref (ad 800 1), .ref (ad 801 1), .ref (ad 802 1), .int 0, .int 0, .int 0, .int 0, .int 0, .int 0, .int 0, .int 0, .int 0, .int 0, .int 0])),
  ((ad 7 2), .inr (7, [.ref (ad 800 2), .ref (ad 801 2), .ref (ad 802 2), .int 0, .int 0, .int 0, .int 0, .int 0, .int 0, .int 0, .int 0, .int 0, .int 0, .int 0])),
  ((ad 7 3), .inr (7, [.ref (ad 800 3), .ref (ad 801 3), .ref (ad 802 3), .int 0, .int 0, .int 0, .int 0, .int 0, .int 0, .int 0, .int 0, .int 0, .int 0, .int 0])),
  ((ad 7 4), .inr (7, [.ref (ad 800 4), .ref (ad 801 4), .ref (ad 802 4), .int 0, .int 0, .int 0, .int 0, .int 0, .int 0, .int 0, .int 0, .int 0, .int 0, .int 0]))]
set_option maxRecDepth 100000 in
theorem wc_0 {cA : ZCA} {ad : ZAd} : LVc0.map (fun q => (ad q.1 q.2, ce cA ad mem0 q)) = Wc0 cA ad := rfl
abbrev LVc1 : List (Nat × Nat) := [(7, 5), (7, 6), (8, 0), (9, 0), (10, 0), (10, 1), (10, 2), (10, 3), (10, 4), (10, 5), (11, 0), (12, 0), (100, 0)]
abbrev Wc1 (cA : ZCA) (ad : ZAd) : va_W := [((ad 7 5), .inr (7, [.ref (ad 800 5), .ref (ad 801 5), .ref (ad 802 5), .int 0, .int 0, .int 0, .int 0, .int 0, .int 0, .int 0, .int 0, .int 0, .int 0, .int 0])),
  ((ad 7 6), .inr (7, [.ref (ad 800 6), .ref (ad 801 6), .ref (ad 802 6), .int 0, .int 0, .int 0, .int 0, .int 0, .int 0, .int 0, .int 0, .int 0, .int 0, .int 0])),
  ((ad 8 0), .inr (8, [.ref (ad 900 0), .ref (ad 901 0), .ref (ad 902 0), .int 0, .int 0, .int 0, .int 0, .int 0, .int 0])),
  ((ad 9 0), .inr (9, [.ref (ad 1000 0), .ref (ad 1001 0), .ref (ad 1002 0), .ref (ad 1003 0)])),
  ((ad 10 0), .inr (10, [.ref (ad 1100 0), .int 0, .int 0, .int 0, .int 0])),
  ((ad 10 1), .inr (10, [.ref (ad 1100 1), .int 0, .int 0, .int 0, .int 0])),
  ((ad 10 2), .inr (10, [.ref (ad 1100 2), .int 0, .int 0, .int 0, .int 0])),
  ((ad 10 3), .inr (10, [.ref (ad 1100 3), .int 0, .int 0, .int 0, .int 0])),
  ((ad 10 4), .inr (10, [.ref (ad 1100 4), .int 0, .int 0, .int 0, .int 0])),
  ((ad 10 5), .inr (10, [.ref (ad 1100 5), .int 0, .int 0, .int 0, .int 0])),
  ((ad 11 0), .inr (11, [.ref (ad 2 0), .ref (ad 7 0), .ref (ad 8 0), .ref (ad 6 0), .ref (ad 9 0), .ref (ad 5 0), .ref (ad 1 0), .ref (ad 0 0), .ref (ad 1208 0), .ref (ad 4 0)])),
  ((ad 12 0), .inr (12, [.int 0, .int 0, .ref (ad 1302 0), .ref (ad 1303 0), .ref (ad 1304 0), .ref (ad 1305 0), .ref (ad 1306 0), .int 0, .int 0, .ref (ad 1309 0), .ref (ad 1310 0), .ref (ad 1311 0), .ref (ad 1312 0), .ref (ad 1313 0), .int 0, .int 0, .int 0, .int 0, .int 0, .ref (ad 1319 0), .ref (ad 1320 0), .ref (ad 1321 0), .ref (ad 1322 0), .ref (ad 1323 0), .ref (ad 1324 0), .ref (ad 1325 0), .int 0, .ref (ad 1327 0), .ref (ad 1328 0), .int 0, .int 0, .int 0, .int 0, .int 0, .int 0, .int 0, .int 0, .ref (ad 1337 0), .ref (ad 1338 0), .int 0, .int 0, .int 0, .ref (ad 1342 0), .ref (ad 1343 0), .int 0, .ref (ad 1345 0), .ref (ad 1346 0), .ref (ad 1347 0), .ref (ad 1348 0), .int 0, .ref (ad 1350 0), .int 0, .int 0, .ref (ad 1353 0), .ref (ad 1354 0), .int 0, .ref (ad 1356 0), .int 0, .ref (ad 1358 0), .ref (ad 1359 0), .ref (ad 1360 0), .ref (ad 1361 0), .ref (ad 1362 0)])),
  ((ad 100 0), .inl (cA .int, 50, .inl fun _ => 0))]
set_option maxRecDepth 100000 in
theorem wc_1 {cA : ZCA} {ad : ZAd} : LVc1.map (fun q => (ad q.1 q.2, ce cA ad mem0 q)) = Wc1 cA ad := rfl
abbrev LVc2 : List (Nat × Nat) := [(101, 0), (200, 0), (201, 0), (202, 0), (203, 0), (300, 0), (301, 0), (302, 0), (303, 0), (400, 0), (400, 1), (401, 0), (401, 1)]
abbrev Wc2 (cA : ZCA) (ad : ZAd) : va_W := [((ad 101 0), .inl (cA .int, 24, .inl fun _ => 0)),
  ((ad 200 0), .inl (cA .int, 40, .inl fun _ => 0)),
  ((ad 201 0), .inl (cA .int, 40, .inl fun _ => 0)),
  ((ad 202 0), .inl (cA .int, 40, .inl fun _ => 0)),
  ((ad 203 0), .inl (cA .int, 40, .inl fun _ => 0)),
  ((ad 300 0), .inl (cA .int, 7, .inl fun _ => 0)),
  ((ad 301 0), .inl (cA .int, 7, .inl fun _ => 0)),
  ((ad 302 0), .inl (cA .int, 7, .inl fun _ => 0)),
  (ad 303 0, .inl (cA .int, 14, .inl fun i => j32 (mem0 303 0 i))),
  ((ad 400 0), .inl (cA .int, 128, .inl fun _ => 0)),
  ((ad 400 1), .inl (cA .int, 128, .inl fun _ => 0)),
  ((ad 401 0), .inl (cA .int, 128, .inl fun _ => 0)),
  ((ad 401 1), .inl (cA .int, 128, .inl fun _ => 0))]
set_option maxRecDepth 100000 in
theorem wc_2 {cA : ZCA} {ad : ZAd} : LVc2.map (fun q => (ad q.1 q.2, ce cA ad mem0 q)) = Wc2 cA ad := rfl
abbrev LVc3 : List (Nat × Nat) := [(402, 0), (402, 1), (500, 0), (600, 0), (601, 0), (700, 0), (701, 0), (800, 0), (800, 1), (800, 2), (800, 3), (800, 4), (800, 5)]
abbrev Wc3 (cA : ZCA) (ad : ZAd) : va_W := [((ad 402 0), .inl (cA .int, 128, .inl fun _ => 0)),
  ((ad 402 1), .inl (cA .int, 128, .inl fun _ => 0)),
  ((ad 500 0), .inl (cA .int, 120, .inl fun _ => 0)),
  ((ad 600 0), .inl (cA .int, 5, .inl fun _ => 0)),
  ((ad 601 0), .inl (cA .int, 5, .inl fun _ => 0)),
  ((ad 700 0), .inl (cA .int, 183, .inl fun _ => 0)),
  ((ad 701 0), .inl (cA .int, 183, .inl fun _ => 0)),
  ((ad 800 0), .inl (cA .int, 7, .inl fun _ => 0)),
  ((ad 800 1), .inl (cA .int, 7, .inl fun _ => 0)),
  ((ad 800 2), .inl (cA .int, 7, .inl fun _ => 0)),
  ((ad 800 3), .inl (cA .int, 7, .inl fun _ => 0)),
  ((ad 800 4), .inl (cA .int, 7, .inl fun _ => 0)),
  ((ad 800 5), .inl (cA .int, 7, .inl fun _ => 0))]
set_option maxRecDepth 100000 in
theorem wc_3 {cA : ZCA} {ad : ZAd} : LVc3.map (fun q => (ad q.1 q.2, ce cA ad mem0 q)) = Wc3 cA ad := rfl
abbrev LVc4 : List (Nat × Nat) := [(800, 6), (801, 0), (801, 1), (801, 2), (801, 3), (801, 4), (801, 5), (801, 6), (802, 0), (802, 1), (802, 2), (802, 3), (802, 4)]
abbrev Wc4 (cA : ZCA) (ad : ZAd) : va_W := [((ad 800 6), .inl (cA .int, 7, .inl fun _ => 0)),
  ((ad 801 0), .inl (cA .int, 7, .inl fun _ => 0)),
  ((ad 801 1), .inl (cA .int, 7, .inl fun _ => 0)),
  ((ad 801 2), .inl (cA .int, 7, .inl fun _ => 0)),
  ((ad 801 3), .inl (cA .int, 7, .inl fun _ => 0)),
  ((ad 801 4), .inl (cA .int, 7, .inl fun _ => 0)),
  ((ad 801 5), .inl (cA .int, 7, .inl fun _ => 0)),
  ((ad 801 6), .inl (cA .int, 7, .inl fun _ => 0)),
  ((ad 802 0), .inl (cA .int, 6, .inl fun _ => 0)),
  ((ad 802 1), .inl (cA .int, 6, .inl fun _ => 0)),
  ((ad 802 2), .inl (cA .int, 6, .inl fun _ => 0)),
  ((ad 802 3), .inl (cA .int, 6, .inl fun _ => 0)),
  ((ad 802 4), .inl (cA .int, 6, .inl fun _ => 0))]
set_option maxRecDepth 100000 in
theorem wc_4 {cA : ZCA} {ad : ZAd} : LVc4.map (fun q => (ad q.1 q.2, ce cA ad mem0 q)) = Wc4 cA ad := rfl
abbrev LVc5 : List (Nat × Nat) := [(802, 5), (802, 6), (900, 0), (901, 0), (902, 0), (1000, 0), (1001, 0), (1002, 0), (1003, 0), (1100, 0), (1100, 1), (1100, 2), (1100, 3)]
abbrev Wc5 (cA : ZCA) (ad : ZAd) : va_W := [((ad 802 5), .inl (cA .int, 6, .inl fun _ => 0)),
  ((ad 802 6), .inl (cA .int, 6, .inl fun _ => 0)),
  (ad 900 0, .inl (cA (.object "OnOneBreath$Scene"), 6, .inr (.inr (.inr (.inr fun i => some (ad (kR 900 i).1 (kR 900 i).2)))))),
  ((ad 901 0), .inl (cA .int, 5, .inl fun _ => 0)),
  ((ad 902 0), .inl (cA .int, 5, .inl fun _ => 0)),
  ((ad 1000 0), .inl (cA .int, 2, .inl fun _ => 0)),
  ((ad 1001 0), .inl (cA .int, 2, .inl fun _ => 0)),
  ((ad 1002 0), .inl (cA .int, 2, .inl fun _ => 0)),
  ((ad 1003 0), .inl (cA .int, 14, .inl fun _ => 0)),
  ((ad 1100 0), .inl (cA .long, 60, .inr (.inl fun _ => 0))),
  ((ad 1100 1), .inl (cA .long, 60, .inr (.inl fun _ => 0))),
  ((ad 1100 2), .inl (cA .long, 60, .inr (.inl fun _ => 0))),
  ((ad 1100 3), .inl (cA .long, 60, .inr (.inl fun _ => 0)))]
set_option maxRecDepth 100000 in
theorem wc_5 {cA : ZCA} {ad : ZAd} : LVc5.map (fun q => (ad q.1 q.2, ce cA ad mem0 q)) = Wc5 cA ad := rfl
abbrev LVc6 : List (Nat × Nat) := [(1100, 4), (1100, 5), (1208, 0), (1302, 0), (1303, 0), (1304, 0), (1305, 0), (1306, 0), (1309, 0), (1310, 0), (1311, 0), (1312, 0), (1313, 0)]
abbrev Wc6 (cA : ZCA) (ad : ZAd) : va_W := [((ad 1100 4), .inl (cA .long, 60, .inr (.inl fun _ => 0))),
  ((ad 1100 5), .inl (cA .long, 60, .inr (.inl fun _ => 0))),
  (ad 1208 0, .inl (cA (.object "OnOneBreath$Shelf"), 6, .inr (.inr (.inr (.inr fun i => some (ad (kR 1208 i).1 (kR 1208 i).2)))))),
  ((ad 1302 0), .inl (cA .int, 7, .inl fun _ => 0)),
  ((ad 1303 0), .inl (cA .int, 7, .inl fun _ => 0)),
  ((ad 1304 0), .inl (cA .int, 7, .inl fun _ => 0)),
  ((ad 1305 0), .inl (cA .int, 7, .inl fun _ => 0)),
  (ad 1306 0, .inl (cA .int, 10, .inl fun i => j32 (mem0 1306 0 i))),
  ((ad 1309 0), .inl (cA .int, 40, .inl fun _ => 0)),
  ((ad 1310 0), .inl (cA .int, 40, .inl fun _ => 0)),
  ((ad 1311 0), .inl (cA .int, 40, .inl fun _ => 0)),
  ((ad 1312 0), .inl (cA .int, 40, .inl fun _ => 0)),
  ((ad 1313 0), .inl (cA .byte, 120, .inl fun _ => 0))]
set_option maxRecDepth 100000 in
theorem wc_6 {cA : ZCA} {ad : ZAd} : LVc6.map (fun q => (ad q.1 q.2, ce cA ad mem0 q)) = Wc6 cA ad := rfl
abbrev LVc7 : List (Nat × Nat) := [(1319, 0), (1320, 0), (1321, 0), (1322, 0), (1323, 0), (1324, 0), (1325, 0), (1327, 0), (1328, 0), (1337, 0), (1338, 0), (1342, 0), (1343, 0)]
abbrev Wc7 (cA : ZCA) (ad : ZAd) : va_W := [((ad 1319 0), .inl (cA .byte, 260, .inl fun _ => 0)),
  ((ad 1320 0), .inl (cA .int, 260, .inl fun _ => 0)),
  ((ad 1321 0), .inl (cA .int, 2, .inl fun _ => 0)),
  ((ad 1322 0), .inl (cA .short, 122, .inl fun _ => 0)),
  ((ad 1323 0), .inl (cA .short, 122, .inl fun _ => 0)),
  ((ad 1324 0), .inl (cA .int, 6, .inl fun _ => 0)),
  ((ad 1325 0), .inl (cA .int, 130, .inl fun _ => 0)),
  ((ad 1327 0), .inl (cA .int, 7, .inl fun _ => 0)),
  ((ad 1328 0), .inl (cA .int, 7, .inl fun _ => 0)),
  ((ad 1337 0), .inl (cA .int, 5, .inl fun _ => 0)),
  ((ad 1338 0), .inl (cA .int, 5, .inl fun _ => 0)),
  ((ad 1342 0), .inl (cA .int, 429, .inl fun _ => 0)),
  ((ad 1343 0), .inl (cA .int, 429, .inl fun _ => 0))]
set_option maxRecDepth 100000 in
theorem wc_7 {cA : ZCA} {ad : ZAd} : LVc7.map (fun q => (ad q.1 q.2, ce cA ad mem0 q)) = Wc7 cA ad := rfl
abbrev LVc8 : List (Nat × Nat) := [(1345, 0), (1346, 0), (1347, 0), (1348, 0), (1350, 0), (1353, 0), (1354, 0), (1356, 0), (1358, 0), (1359, 0), (1360, 0), (1361, 0), (1362, 0)]
abbrev Wc8 (cA : ZCA) (ad : ZAd) : va_W := [(ad 1345 0, .inl (cA .int, 2, .inl fun i => j32 (mem0 1345 0 i))),
  (ad 1346 0, .inl (cA .int, 2, .inl fun i => j32 (mem0 1346 0 i))),
  ((ad 1347 0), .inl (cA .int, 14, .inl fun _ => 0)),
  (ad 1348 0, .inl (cA .int, 2, .inl fun i => j32 (mem0 1348 0 i))),
  ((ad 1350 0), .inl (cA .int, 5, .inl fun _ => 0)),
  ((ad 1353 0), .inl (cA .int, 7, .inl fun _ => 0)),
  ((ad 1354 0), .inl (cA .int, 5, .inl fun _ => 0)),
  ((ad 1356 0), .inl (cA .int, 50, .inl fun _ => 0)),
  ((ad 1358 0), .inl (cA .int, 24, .inl fun _ => 0)),
  (ad 1359 0, .inl (cA .int, 6, .inl fun i => j32 (mem0 1359 0 i))),
  ((ad 1360 0), .inl (cA .int, 6, .inl fun _ => 0)),
  ((ad 1361 0), .inl (cA .long, 360, .inr (.inl fun _ => 0))),
  ((ad 1362 0), .inl (cA .long, 60, .inr (.inl fun _ => 0)))]
set_option maxRecDepth 100000 in
theorem wc_8 {cA : ZCA} {ad : ZAd} : LVc8.map (fun q => (ad q.1 q.2, ce cA ad mem0 q)) = Wc8 cA ad := rfl
theorem LV_ch : LV = LVc0 ++ (LVc1 ++ (LVc2 ++ (LVc3 ++ (LVc4 ++ (LVc5 ++ (LVc6 ++ (LVc7 ++ (LVc8)))))))) := by decide +kernel
theorem ws_ch {cA : ZCA} {ad : ZAd} : wsW cA ad mem0 = Wc0 cA ad ++ (Wc1 cA ad ++ (Wc2 cA ad ++ (Wc3 cA ad ++ (Wc4 cA ad ++ (Wc5 cA ad ++ (Wc6 cA ad ++ (Wc7 cA ad ++ (Wc8 cA ad)))))))) := by
  unfold wsW
  rw [LV_ch]
  simp only [List.map_append]
  rw [wc_0, wc_1, wc_2, wc_3, wc_4, wc_5, wc_6, wc_7, wc_8]
set_option maxRecDepth 100000 in
set_option maxHeartbeats 4000000 in
theorem start_w {cA : ZCA} {ad : ZAd} {D : va_G} {A : Nat → Prop} {H : Heap} (hP : va_P D vwCl (Wad cA ad) H) (hD : va_D A (Wad cA ad)) : va_P D vwCl (wsW cA ad mem0) H ∧ va_D A (wsW cA ad mem0) := by
  have hP1 : va_P D vwCl (Wlv cA ad) H := hP.sub prm rfl
  have hD1 : va_D A (Wlv cA ad) := hD.sub prm (by decide +kernel) rfl
  obtain ⟨hP2, hD2⟩ := P_alt (e2 := .inl (cA .int, 14, .inl fun i => j32 (mem0 303 0 i))) 34 hP1 hD1 rfl (fun h => atc_int (fun j hj => match j, hj with
    | 0, _ => rfl
    | 1, _ => rfl
    | 2, _ => rfl
    | 3, _ => rfl
    | 4, _ => rfl
    | 5, _ => rfl
    | 6, _ => rfl
    | 7, _ => rfl
    | 8, _ => rfl
    | 9, _ => rfl
    | 10, _ => rfl
    | 11, _ => rfl
    | 12, _ => rfl
    | 13, _ => rfl
    | m + 14, hm => absurd hm (by omega)) h)
  obtain ⟨hP3, hD3⟩ := P_alt (e2 := .inl (cA .int, 10, .inl fun i => j32 (mem0 1306 0 i))) 85 hP2 hD2 rfl (fun h => atc_int (fun j hj => match j, hj with
    | 0, _ => rfl
    | 1, _ => rfl
    | 2, _ => rfl
    | 3, _ => rfl
    | 4, _ => rfl
    | 5, _ => rfl
    | 6, _ => rfl
    | 7, _ => rfl
    | 8, _ => rfl
    | 9, _ => rfl
    | m + 10, hm => absurd hm (by omega)) h)
  obtain ⟨hP4, hD4⟩ := P_alt (e2 := .inl (cA .int, 6, .inl fun i => j32 (mem0 1359 0 i))) 113 hP3 hD3 rfl (fun h => atc_int (fun j hj => match j, hj with
    | 0, _ => rfl
    | 1, _ => rfl
    | 2, _ => rfl
    | 3, _ => rfl
    | 4, _ => rfl
    | 5, _ => rfl
    | m + 6, hm => absurd hm (by omega)) h)
  obtain ⟨hP5, hD5⟩ := P_alt (e2 := .inl (cA (.object "OnOneBreath$Scene"), 6, .inr (.inr (.inr (.inr fun i => some (ad (kR 900 i).1 (kR 900 i).2)))))) 67 hP4 hD4 rfl (fun h => atc_ref (fun j hj => match j, hj with
    | 0, _ => rfl
    | 1, _ => rfl
    | 2, _ => rfl
    | 3, _ => rfl
    | 4, _ => rfl
    | 5, _ => rfl
    | m + 6, hm => absurd hm (by omega)) h)
  obtain ⟨hP6, hD6⟩ := P_alt (e2 := .inl (cA (.object "OnOneBreath$Shelf"), 6, .inr (.inr (.inr (.inr fun i => some (ad (kR 1208 i).1 (kR 1208 i).2)))))) 80 hP5 hD5 rfl (fun h => atc_ref (fun j hj => match j, hj with
    | 0, _ => rfl
    | 1, _ => rfl
    | 2, _ => rfl
    | 3, _ => rfl
    | 4, _ => rfl
    | 5, _ => rfl
    | m + 6, hm => absurd hm (by omega)) h)
  obtain ⟨hP7, hD7⟩ := P_alt (e2 := .inl (cA .int, 2, .inl fun i => j32 (mem0 1345 0 i))) 104 hP6 hD6 rfl (fun h => atc_int (fun j hj => match j, hj with
    | 0, _ => rfl
    | 1, _ => rfl
    | m + 2, hm => absurd hm (by omega)) h)
  obtain ⟨hP8, hD8⟩ := P_alt (e2 := .inl (cA .int, 2, .inl fun i => j32 (mem0 1346 0 i))) 105 hP7 hD7 rfl (fun h => atc_int (fun j hj => match j, hj with
    | 0, _ => rfl
    | 1, _ => rfl
    | m + 2, hm => absurd hm (by omega)) h)
  obtain ⟨hP9, hD9⟩ := P_alt (e2 := .inl (cA .int, 2, .inl fun i => j32 (mem0 1348 0 i))) 107 hP8 hD8 rfl (fun h => atc_int (fun j hj => match j, hj with
    | 0, _ => rfl
    | 1, _ => rfl
    | m + 2, hm => absurd hm (by omega)) h)
  rw [ws_ch]
  exact ⟨hP9, hD9⟩
theorem mem0_rg (k j : Nat) (i : Int) : -1 ≤ mem0 k j i ∧ mem0 k j i ≤ 20 := by
  have g : ∀ (l : List Int) (n : Nat), (∀ v ∈ l, 0 ≤ v ∧ v ≤ 20) → -1 ≤ l.getD n 0 ∧ l.getD n 0 ≤ 20 := by
    intro l n h
    rw [List.getD_eq_getElem?_getD]
    cases hk : l[n]? with
    | none => exact ⟨by decide, by decide⟩
    | some v => have := h v (List.mem_of_getElem? hk); exact ⟨by show -1 ≤ v; omega, by show v ≤ 20; omega⟩
  unfold mem0
  split
  · exact g _ _ (by decide)
  · split
    · exact g _ _ (by decide)
    · (repeat' split) <;> omega
theorem mem0_wf : wfm mem0 := by
  refine ⟨fun k j i _ => ?_, fun k j i _ => ?_, fun k j s k2 h => ?_⟩
  · have := mem0_rg k j i
    unfold ri
    omega
  · have := mem0_rg k j i
    unfold rl
    omega
  · unfold kF at h
    split at h
    all_goals first
      | (simp at h; done)
      | (simp at h; subst h; first | exact (by decide : mem0 2 0 7 < (kCnt 3 : Int)) | exact (by decide : mem0 4 0 4 < (kCnt 3 : Int)))
theorem mem0_al : InvAl mem0 := by
  refine ⟨?_, ?_, ?_, ?_, ?_, ?_, ⟨Or.inr rfl, by decide⟩, by decide, none, ⟨Or.inl rfl, rfl⟩, rfl, ⟨by decide, fun c => absurd rfl c⟩⟩
  · refine ⟨⟨by decide, by decide, rfl⟩, fun i h h2 => ?_, ⟨by decide, by decide, fun i h h2 => ?_⟩, fun w h h2 => ?_⟩
    · have h2 : i < 0 := h2
      omega
    · have : i = 0 ∨ i = 1 ∨ i = 2 ∨ i = 3 ∨ i = 4 ∨ i = 5 ∨ i = 6 := by have h : (0 : Int) ≤ i := h; omega
      rcases this with rfl | rfl | rfl | rfl | rfl | rfl | rfl <;> decide +kernel
    · have : w = 4 ∨ w = 5 ∨ w = 6 ∨ w = 7 ∨ w = 8 ∨ w = 9 ∨ w = 10 ∨ w = 11 ∨ w = 12 ∨ w = 13 := by omega
      rcases this with rfl | rfl | rfl | rfl | rfl | rfl | rfl | rfl | rfl | rfl <;> exact ⟨by decide +kernel, by unfold okV; decide +kernel⟩
  · refine ⟨⟨by decide, by decide, by decide, rfl, rfl⟩, fun i h h2 => ?_⟩
    have h2 : i < 0 + 0 := h2
    omega
  · refine ⟨⟨by decide, by decide, rfl⟩, fun i h h2 => ?_⟩
    have h2 : i < 0 := h2
    omega
  · exact ⟨fun i _ _ => rfl, Or.inl rfl, rfl, fun c => absurd c (by decide)⟩
  · refine ⟨⟨by decide, by decide, rfl⟩, fun i h h2 => ?_, ⟨by decide, by decide, rfl⟩, fun i h h2 => ?_⟩
    · have h2 : i < 0 := h2
      omega
    · have h2 : i < 0 := h2
      omega
  · exact fun s _ => ⟨Or.inl ⟨rfl, rfl⟩, ⟨Int.le_refl 0, show (0 : Int) ≤ 60 by decide, rfl⟩, fun i _ _ => ⟨rfl, fun c => absurd (show (-1 : Int) = -2 from c) (by decide)⟩⟩
