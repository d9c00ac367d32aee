def l_Rd_join_94 : Pl := [(87, some 9), (88, none), (89, none), (108, some 1), (109, none), (110, none), (111, none), (112, none), (113, none), (114, none)]
def l_Rd_join_20 : Pl := [(87, some 9), (88, none), (89, none), (108, some 1), (109, none), (110, none), (111, none), (112, none), (113, none), (114, none)]
def l_Rd_join : Pl := [(87, some 9), (88, none), (89, none), (108, some 1), (109, none), (110, none), (111, none), (112, none), (113, none), (114, none)]
set_option maxRecDepth 20000 in
set_option maxHeartbeats 2000000 in
theorem h_Rd_join {w : MW} {a0 : Int32} {b0 : Int32} {c0 : Int32} {e0 : Int32} {Q : Int32 → MW → Prop} (hI : BND w) (hr_87_1 : w.2.2 87 1 = some 108)  (hQ : ∀ (r : Int32) (w' : MW), BND w' → FR l_Rd_join w w' → Q r w') : p_Rd_join w a0 b0 c0 e0 Q := by
  refine Eq.mpr (p_Rd_join.eq_1 _ _ _ _ _ _) ?_
  refine ⟨fun h1318 => ?_, fun h1318 => ?_⟩
  · refine ⟨fun h1319 => ?_, fun h1319 => ?_⟩
    · refine Eq.mpr (q_Rd_join_20.eq_1 _ _ _ _ _ _ _) ?_
      refine ⟨fun h1320 => ?_, fun h1320 => ?_⟩
      · refine ⟨fun h1321 => ?_, fun h1321 => ?_⟩
        · refine Eq.mpr (q_Rd_join_94.eq_1 _ _ _ _ _ _) ?_
          refine ⟨fun h => absurd h (by decide), fun _ => ?_⟩
          have hI1322 : BND (sI w 87 9 b0) := wbd_87_9 hI
          exact hQ _ _ hI1322 (FR.I (FR.refl _ w) (k := 87) (j := 9) (v := b0) rfl) 
        · refine ⟨fun h1323 => ?_, fun h1323 => ?_⟩
          · refine ⟨fun h1324 => ?_, fun h1324 => ?_⟩
            · refine Eq.mpr (q_Rd_join_94.eq_1 _ _ _ _ _ _) ?_
              refine ⟨fun _ => ?_, fun h => absurd (by decide) h⟩
              refine h_Rd_makeNode hI hr_87_1  (fun r1328 w1325 hI1326 hL1327 p1329 p1330 => ?_)
              have hF1331 : FR l_Rd_join w w1325 := (FR.refl _ w).tr hL1327 rfl
              exact hQ _ _ hI1326 hF1331 
            · refine Eq.mpr (q_Rd_join_94.eq_1 _ _ _ _ _ _) ?_
              refine ⟨fun _ => ?_, fun h => absurd (by decide) h⟩
              refine h_Rd_makeNode hI hr_87_1  (fun r1335 w1332 hI1333 hL1334 p1336 p1337 => ?_)
              have hF1338 : FR l_Rd_join w w1332 := (FR.refl _ w).tr hL1334 rfl
              exact hQ _ _ hI1333 hF1338 
          · refine ⟨fun h1339 => ?_, fun h1339 => ?_⟩
            · refine Eq.mpr (q_Rd_join_94.eq_1 _ _ _ _ _ _) ?_
              refine ⟨fun h => absurd h (by decide), fun _ => ?_⟩
              have hI1340 : BND (sI w 87 9 b0) := wbd_87_9 hI
              exact hQ _ _ hI1340 (FR.I (FR.refl _ w) (k := 87) (j := 9) (v := b0) rfl) 
            · refine Eq.mpr (q_Rd_join_94.eq_1 _ _ _ _ _ _) ?_
              refine ⟨fun _ => ?_, fun h => absurd (by decide) h⟩
              refine h_Rd_makeNode hI hr_87_1  (fun r1344 w1341 hI1342 hL1343 p1345 p1346 => ?_)
              have hF1347 : FR l_Rd_join w w1341 := (FR.refl _ w).tr hL1343 rfl
              exact hQ _ _ hI1342 hF1347 
      · refine ⟨fun h1348 => ?_, fun h1348 => ?_⟩
        · refine Eq.mpr (p_Ma_max.eq_1 _ _ _ _) ?_
          refine ⟨fun h1349 => ?_, fun h1349 => ?_⟩
          · refine Eq.mpr (q_Rd_join_94.eq_1 _ _ _ _ _ _) ?_
            refine ⟨fun _ => ?_, fun h => absurd (by decide) h⟩
            refine h_Rd_makeNode hI hr_87_1  (fun r1353 w1350 hI1351 hL1352 p1354 p1355 => ?_)
            have hF1356 : FR l_Rd_join w w1350 := (FR.refl _ w).tr hL1352 rfl
            exact hQ _ _ hI1351 hF1356 
          · refine Eq.mpr (q_Rd_join_94.eq_1 _ _ _ _ _ _) ?_
            refine ⟨fun _ => ?_, fun h => absurd (by decide) h⟩
            refine h_Rd_makeNode hI hr_87_1  (fun r1360 w1357 hI1358 hL1359 p1361 p1362 => ?_)
            have hF1363 : FR l_Rd_join w w1357 := (FR.refl _ w).tr hL1359 rfl
            exact hQ _ _ hI1358 hF1363 
        · refine ⟨fun h1364 => ?_, fun h1364 => ?_⟩
          · refine Eq.mpr (p_Ma_max.eq_1 _ _ _ _) ?_
            refine ⟨fun h1365 => ?_, fun h1365 => ?_⟩
            · refine Eq.mpr (q_Rd_join_94.eq_1 _ _ _ _ _ _) ?_
              refine ⟨fun h => absurd h (by decide), fun _ => ?_⟩
              have hI1366 : BND (sI w 87 9 b0) := wbd_87_9 hI
              exact hQ _ _ hI1366 (FR.I (FR.refl _ w) (k := 87) (j := 9) (v := b0) rfl) 
            · refine Eq.mpr (q_Rd_join_94.eq_1 _ _ _ _ _ _) ?_
              refine ⟨fun h => absurd h (by decide), fun _ => ?_⟩
              have hI1367 : BND (sI w 87 9 b0) := wbd_87_9 hI
              exact hQ _ _ hI1367 (FR.I (FR.refl _ w) (k := 87) (j := 9) (v := b0) rfl) 
          · refine Eq.mpr (p_Ma_max.eq_1 _ _ _ _) ?_
            refine ⟨fun h1368 => ?_, fun h1368 => ?_⟩
            · refine Eq.mpr (q_Rd_join_94.eq_1 _ _ _ _ _ _) ?_
              refine ⟨fun _ => ?_, fun h => absurd (by decide) h⟩
              refine h_Rd_makeNode hI hr_87_1  (fun r1372 w1369 hI1370 hL1371 p1373 p1374 => ?_)
              have hF1375 : FR l_Rd_join w w1369 := (FR.refl _ w).tr hL1371 rfl
              exact hQ _ _ hI1370 hF1375 
            · refine Eq.mpr (q_Rd_join_94.eq_1 _ _ _ _ _ _) ?_
              refine ⟨fun _ => ?_, fun h => absurd (by decide) h⟩
              refine h_Rd_makeNode hI hr_87_1  (fun r1379 w1376 hI1377 hL1378 p1380 p1381 => ?_)
              have hF1382 : FR l_Rd_join w w1376 := (FR.refl _ w).tr hL1378 rfl
              exact hQ _ _ hI1377 hF1382 
    · refine Eq.mpr (q_Rd_join_20.eq_1 _ _ _ _ _ _ _) ?_
      refine ⟨fun h1383 => ?_, fun h1383 => ?_⟩
      · refine ⟨fun h1384 => ?_, fun h1384 => ?_⟩
        · refine Eq.mpr (q_Rd_join_94.eq_1 _ _ _ _ _ _) ?_
          refine ⟨fun _ => ?_, fun h => absurd (by decide) h⟩
          refine h_Rd_makeNode hI hr_87_1  (fun r1388 w1385 hI1386 hL1387 p1389 p1390 => ?_)
          have hF1391 : FR l_Rd_join w w1385 := (FR.refl _ w).tr hL1387 rfl
          exact hQ _ _ hI1386 hF1391 
        · refine ⟨fun h1392 => ?_, fun h1392 => ?_⟩
          · refine ⟨fun h1393 => ?_, fun h1393 => ?_⟩
            · refine Eq.mpr (q_Rd_join_94.eq_1 _ _ _ _ _ _) ?_
              refine ⟨fun _ => ?_, fun h => absurd (by decide) h⟩
              refine h_Rd_makeNode hI hr_87_1  (fun r1397 w1394 hI1395 hL1396 p1398 p1399 => ?_)
              have hF1400 : FR l_Rd_join w w1394 := (FR.refl _ w).tr hL1396 rfl
              exact hQ _ _ hI1395 hF1400 
            · refine Eq.mpr (q_Rd_join_94.eq_1 _ _ _ _ _ _) ?_
              refine ⟨fun _ => ?_, fun h => absurd (by decide) h⟩
              refine h_Rd_makeNode hI hr_87_1  (fun r1404 w1401 hI1402 hL1403 p1405 p1406 => ?_)
              have hF1407 : FR l_Rd_join w w1401 := (FR.refl _ w).tr hL1403 rfl
              exact hQ _ _ hI1402 hF1407 
          · refine ⟨fun h1408 => ?_, fun h1408 => ?_⟩
            · refine Eq.mpr (q_Rd_join_94.eq_1 _ _ _ _ _ _) ?_
              refine ⟨fun h => absurd h (by decide), fun _ => ?_⟩
              have hI1409 : BND (sI w 87 9 b0) := wbd_87_9 hI
              exact hQ _ _ hI1409 (FR.I (FR.refl _ w) (k := 87) (j := 9) (v := b0) rfl) 
            · refine Eq.mpr (q_Rd_join_94.eq_1 _ _ _ _ _ _) ?_
              refine ⟨fun _ => ?_, fun h => absurd (by decide) h⟩
              refine h_Rd_makeNode hI hr_87_1  (fun r1413 w1410 hI1411 hL1412 p1414 p1415 => ?_)
              have hF1416 : FR l_Rd_join w w1410 := (FR.refl _ w).tr hL1412 rfl
              exact hQ _ _ hI1411 hF1416 
      · refine ⟨fun h1417 => ?_, fun h1417 => ?_⟩
        · refine Eq.mpr (p_Ma_max.eq_1 _ _ _ _) ?_
          refine ⟨fun h1418 => ?_, fun h1418 => ?_⟩
          · refine Eq.mpr (q_Rd_join_94.eq_1 _ _ _ _ _ _) ?_
            refine ⟨fun _ => ?_, fun h => absurd (by decide) h⟩
            refine h_Rd_makeNode hI hr_87_1  (fun r1422 w1419 hI1420 hL1421 p1423 p1424 => ?_)
            have hF1425 : FR l_Rd_join w w1419 := (FR.refl _ w).tr hL1421 rfl
            exact hQ _ _ hI1420 hF1425 
          · refine Eq.mpr (q_Rd_join_94.eq_1 _ _ _ _ _ _) ?_
            refine ⟨fun _ => ?_, fun h => absurd (by decide) h⟩
            refine h_Rd_makeNode hI hr_87_1  (fun r1429 w1426 hI1427 hL1428 p1430 p1431 => ?_)
            have hF1432 : FR l_Rd_join w w1426 := (FR.refl _ w).tr hL1428 rfl
            exact hQ _ _ hI1427 hF1432 
        · refine ⟨fun h1433 => ?_, fun h1433 => ?_⟩
          · refine Eq.mpr (p_Ma_max.eq_1 _ _ _ _) ?_
            refine ⟨fun h1434 => ?_, fun h1434 => ?_⟩
            · refine Eq.mpr (q_Rd_join_94.eq_1 _ _ _ _ _ _) ?_
              refine ⟨fun h => absurd h (by decide), fun _ => ?_⟩
              have hI1435 : BND (sI w 87 9 b0) := wbd_87_9 hI
              exact hQ _ _ hI1435 (FR.I (FR.refl _ w) (k := 87) (j := 9) (v := b0) rfl) 
            · refine Eq.mpr (q_Rd_join_94.eq_1 _ _ _ _ _ _) ?_
              refine ⟨fun h => absurd h (by decide), fun _ => ?_⟩
              have hI1436 : BND (sI w 87 9 b0) := wbd_87_9 hI
              exact hQ _ _ hI1436 (FR.I (FR.refl _ w) (k := 87) (j := 9) (v := b0) rfl) 
          · refine Eq.mpr (p_Ma_max.eq_1 _ _ _ _) ?_
            refine ⟨fun h1437 => ?_, fun h1437 => ?_⟩
            · refine Eq.mpr (q_Rd_join_94.eq_1 _ _ _ _ _ _) ?_
              refine ⟨fun _ => ?_, fun h => absurd (by decide) h⟩
              refine h_Rd_makeNode hI hr_87_1  (fun r1441 w1438 hI1439 hL1440 p1442 p1443 => ?_)
              have hF1444 : FR l_Rd_join w w1438 := (FR.refl _ w).tr hL1440 rfl
              exact hQ _ _ hI1439 hF1444 
            · refine Eq.mpr (q_Rd_join_94.eq_1 _ _ _ _ _ _) ?_
              refine ⟨fun _ => ?_, fun h => absurd (by decide) h⟩
              refine h_Rd_makeNode hI hr_87_1  (fun r1448 w1445 hI1446 hL1447 p1449 p1450 => ?_)
              have hF1451 : FR l_Rd_join w w1445 := (FR.refl _ w).tr hL1447 rfl
              exact hQ _ _ hI1446 hF1451 
  · exact hQ _ _ hI (FR.refl _ w)
def l_Rd_levelOf : Pl := []
set_option maxRecDepth 20000 in
set_option maxHeartbeats 2000000 in
theorem h_Rd_levelOf {w : MW} {a0 : Int32} {Q : Int32 → MW → Prop} (hI : BND w)  (hQ : ∀ (r : Int32) (w' : MW), BND w' → FR l_Rd_levelOf w w' → 0 ≤ r.toInt → r.toInt ≤ 3 → Q r w') : p_Rd_levelOf w a0 Q := by
  refine Eq.mpr (p_Rd_levelOf.eq_1 _ _ _) ?_
  refine ⟨fun h1452 => ?_, fun h1452 => ?_⟩
  · have o1453 : (0 ≤ (2 : Int32).toInt) ∧ ((2 : Int32).toInt ≤ 3) := by have := (by decide : ((2 : Int32)).toInt = 2); exact ⟨by omega, by omega⟩
    exact hQ _ _ hI (FR.refl _ w)  o1453.1 o1453.2
  · refine ⟨fun h1454 => ?_, fun h1454 => ?_⟩
    · have o1455 : (0 ≤ (1 : Int32).toInt) ∧ ((1 : Int32).toInt ≤ 3) := by have := (by decide : ((1 : Int32)).toInt = 1); exact ⟨by omega, by omega⟩
      exact hQ _ _ hI (FR.refl _ w)  o1455.1 o1455.2
    · refine ⟨fun h1456 => ?_, fun h1456 => ?_⟩
      · have o1457 : (0 ≤ (3 : Int32).toInt) ∧ ((3 : Int32).toInt ≤ 3) := by have := (by decide : ((3 : Int32)).toInt = 3); exact ⟨by omega, by omega⟩
        exact hQ _ _ hI (FR.refl _ w)  o1457.1 o1457.2
      · refine ⟨fun h1458 => ?_, fun h1458 => ?_⟩
        · have o1459 : (0 ≤ (1 : Int32).toInt) ∧ ((1 : Int32).toInt ≤ 3) := by have := (by decide : ((1 : Int32)).toInt = 1); exact ⟨by omega, by omega⟩
          exact hQ _ _ hI (FR.refl _ w)  o1459.1 o1459.2
        · refine ⟨fun h1460 => ?_, fun h1460 => ?_⟩
          · have o1461 : (0 ≤ (3 : Int32).toInt) ∧ ((3 : Int32).toInt ≤ 3) := by have := (by decide : ((3 : Int32)).toInt = 3); exact ⟨by omega, by omega⟩
            exact hQ _ _ hI (FR.refl _ w)  o1461.1 o1461.2
          · refine ⟨fun h1462 => ?_, fun h1462 => ?_⟩
            · have o1463 : (0 ≤ (2 : Int32).toInt) ∧ ((2 : Int32).toInt ≤ 3) := by have := (by decide : ((2 : Int32)).toInt = 2); exact ⟨by omega, by omega⟩
              exact hQ _ _ hI (FR.refl _ w)  o1463.1 o1463.2
            · refine ⟨fun h1464 => ?_, fun h1464 => ?_⟩
              · have o1465 : (0 ≤ (3 : Int32).toInt) ∧ ((3 : Int32).toInt ≤ 3) := by have := (by decide : ((3 : Int32)).toInt = 3); exact ⟨by omega, by omega⟩
                exact hQ _ _ hI (FR.refl _ w)  o1465.1 o1465.2
              · refine ⟨fun h1466 => ?_, fun h1466 => ?_⟩
                · have o1467 : (0 ≤ (3 : Int32).toInt) ∧ ((3 : Int32).toInt ≤ 3) := by have := (by decide : ((3 : Int32)).toInt = 3); exact ⟨by omega, by omega⟩
                  exact hQ _ _ hI (FR.refl _ w)  o1467.1 o1467.2
                · refine ⟨fun h1468 => ?_, fun h1468 => ?_⟩
                  · have o1469 : (0 ≤ (3 : Int32).toInt) ∧ ((3 : Int32).toInt ≤ 3) := by have := (by decide : ((3 : Int32)).toInt = 3); exact ⟨by omega, by omega⟩
                    exact hQ _ _ hI (FR.refl _ w)  o1469.1 o1469.2
                  · refine ⟨fun h1470 => ?_, fun h1470 => ?_⟩
                    · have o1471 : (0 ≤ (3 : Int32).toInt) ∧ ((3 : Int32).toInt ≤ 3) := by have := (by decide : ((3 : Int32)).toInt = 3); exact ⟨by omega, by omega⟩
                      exact hQ _ _ hI (FR.refl _ w)  o1471.1 o1471.2
                    · refine ⟨fun h1472 => ?_, fun h1472 => ?_⟩
                      · have o1473 : (0 ≤ (3 : Int32).toInt) ∧ ((3 : Int32).toInt ≤ 3) := by have := (by decide : ((3 : Int32)).toInt = 3); exact ⟨by omega, by omega⟩
                        exact hQ _ _ hI (FR.refl _ w)  o1473.1 o1473.2
                      · refine ⟨fun h1474 => ?_, fun h1474 => ?_⟩
                        · have o1475 : (0 ≤ (3 : Int32).toInt) ∧ ((3 : Int32).toInt ≤ 3) := by have := (by decide : ((3 : Int32)).toInt = 3); exact ⟨by omega, by omega⟩
                          exact hQ _ _ hI (FR.refl _ w)  o1475.1 o1475.2
                        · refine ⟨fun h1476 => ?_, fun h1476 => ?_⟩
                          · have o1477 : (0 ≤ (3 : Int32).toInt) ∧ ((3 : Int32).toInt ≤ 3) := by have := (by decide : ((3 : Int32)).toInt = 3); exact ⟨by omega, by omega⟩
                            exact hQ _ _ hI (FR.refl _ w)  o1477.1 o1477.2
                          · refine ⟨fun h1478 => ?_, fun h1478 => ?_⟩
                            · have o1479 : (0 ≤ (3 : Int32).toInt) ∧ ((3 : Int32).toInt ≤ 3) := by have := (by decide : ((3 : Int32)).toInt = 3); exact ⟨by omega, by omega⟩
                              exact hQ _ _ hI (FR.refl _ w)  o1479.1 o1479.2
                            · refine ⟨fun h1480 => ?_, fun h1480 => ?_⟩
                              · have o1481 : (0 ≤ (3 : Int32).toInt) ∧ ((3 : Int32).toInt ≤ 3) := by have := (by decide : ((3 : Int32)).toInt = 3); exact ⟨by omega, by omega⟩
                                exact hQ _ _ hI (FR.refl _ w)  o1481.1 o1481.2
                              · refine ⟨fun h1482 => ?_, fun h1482 => ?_⟩
                                · have o1483 : (0 ≤ (3 : Int32).toInt) ∧ ((3 : Int32).toInt ≤ 3) := by have := (by decide : ((3 : Int32)).toInt = 3); exact ⟨by omega, by omega⟩
                                  exact hQ _ _ hI (FR.refl _ w)  o1483.1 o1483.2
                                · refine ⟨fun h1484 => ?_, fun h1484 => ?_⟩
                                  · have o1485 : (0 ≤ (3 : Int32).toInt) ∧ ((3 : Int32).toInt ≤ 3) := by have := (by decide : ((3 : Int32)).toInt = 3); exact ⟨by omega, by omega⟩
                                    exact hQ _ _ hI (FR.refl _ w)  o1485.1 o1485.2
                                  · refine ⟨fun h1486 => ?_, fun h1486 => ?_⟩
                                    · have o1487 : (0 ≤ (3 : Int32).toInt) ∧ ((3 : Int32).toInt ≤ 3) := by have := (by decide : ((3 : Int32)).toInt = 3); exact ⟨by omega, by omega⟩
                                      exact hQ _ _ hI (FR.refl _ w)  o1487.1 o1487.2
                                    · refine ⟨fun h1488 => ?_, fun h1488 => ?_⟩
                                      · have o1489 : (0 ≤ (0 : Int32).toInt) ∧ ((0 : Int32).toInt ≤ 3) := by have := (by decide : ((0 : Int32)).toInt = 0); exact ⟨by omega, by omega⟩
                                        exact hQ _ _ hI (FR.refl _ w)  o1489.1 o1489.2
                                      · refine ⟨fun h1490 => ?_, fun h1490 => ?_⟩
                                        · have o1491 : (0 ≤ (0 : Int32).toInt) ∧ ((0 : Int32).toInt ≤ 3) := by have := (by decide : ((0 : Int32)).toInt = 0); exact ⟨by omega, by omega⟩
                                          exact hQ _ _ hI (FR.refl _ w)  o1491.1 o1491.2
                                        · refine ⟨fun h1492 => ?_, fun h1492 => ?_⟩
                                          · have o1493 : (0 ≤ (0 : Int32).toInt) ∧ ((0 : Int32).toInt ≤ 3) := by have := (by decide : ((0 : Int32)).toInt = 0); exact ⟨by omega, by omega⟩
                                            exact hQ _ _ hI (FR.refl _ w)  o1493.1 o1493.2
                                          · have o1494 : (0 ≤ (3 : Int32).toInt) ∧ ((3 : Int32).toInt ≤ 3) := by have := (by decide : ((3 : Int32)).toInt = 3); exact ⟨by omega, by omega⟩
                                            exact hQ _ _ hI (FR.refl _ w)  o1494.1 o1494.2
def l_Pr_finds108_2 : Pl := []
def l_Pr_finds108 : Pl := []
set_option maxRecDepth 20000 in
set_option maxHeartbeats 2000000 in
theorem hq_Pr_finds108_2 {x2_1 : Int64} {E : MW → Prop} {Q : Int32 → MW → Prop} (n : Nat) : ∀ (x2_3 : Int32) (w : MW), BND w → 0 ≤ x2_3.toInt → x2_3.toInt ≤ 40 → (40 - x2_3.toInt).toNat < n → (∀ (w' : MW), BND w' → FR l_Pr_finds108_2 w w' → E w') → (∀ (r : Int32) (w' : MW), BND w' → FR l_Pr_finds108_2 w w' → 0 ≤ r.toInt → r.toInt ≤ 39 → Q r w') → q_Pr_finds108_2 x2_1 E Q n x2_3 w := by
  induction n with
  | zero => intros; omega
  | succ n ih =>
    intro x2_3 w hI  hp0 hp1 hm hE hQ
    rw [q_Pr_finds108_2.eq_2]
    refine ⟨fun h1495 => ?_, fun h1495 => ?_⟩
    · exact hE _ hI (FR.refl _ w)
    · have o1496 : 0 ≤ x2_3.toInt ∧ x2_3.toInt < 40 := by have := bd_108_10 hI; omega
      refine ⟨o1496, ?_⟩
      refine ⟨fun h1497 => ?_, fun h1497 => ?_⟩
      · have o1498 : (0 ≤ (x2_3 + (1 : Int32)).toInt) ∧ ((x2_3 + (1 : Int32)).toInt ≤ 40) := by have := ti_add2 (Eq.refl x2_3.toInt) (by decide : ((1 : Int32)).toInt = 1) (by omega) (by omega); have := bd_108_10 hI; exact ⟨by omega, by omega⟩
        exact ih _ w hI  o1498.1 o1498.2 (by have := ti_add2 (Eq.refl x2_3.toInt) (by decide : ((1 : Int32)).toInt = 1) (by omega) (by omega); have := bd_108_10 hI; omega) (fun w9 hI9 hF9 => hE w9 hI9 ((FR.refl _ w).tr hF9 rfl) ) (fun r w9 hI9 hF9 q0 q1 => hQ r w9 hI9 ((FR.refl _ w).tr hF9 rfl) (by have := ti_add2 (Eq.refl x2_3.toInt) (by decide : ((1 : Int32)).toInt = 1) (by omega) (by omega); have := bd_108_10 hI; omega) (by have := ti_add2 (Eq.refl x2_3.toInt) (by decide : ((1 : Int32)).toInt = 1) (by omega) (by omega); have := bd_108_10 hI; omega))
      · have o1499 : (0 ≤ x2_3.toInt) ∧ (x2_3.toInt ≤ 39) := by have := bd_108_10 hI; exact ⟨by omega, by omega⟩
        exact hQ _ _ hI (FR.refl _ w)  o1499.1 o1499.2
set_option maxRecDepth 20000 in
set_option maxHeartbeats 2000000 in
theorem h_Pr_finds108 {w : MW} {a0 : Int64} {Q : Int32 → MW → Prop} (hI : BND w)  (hQ : ∀ (r : Int32) (w' : MW), BND w' → FR l_Pr_finds108 w w' → (-1) ≤ r.toInt → r.toInt ≤ 39 → Q r w') : p_Pr_finds108 w a0 Q := by
  refine Eq.mpr (p_Pr_finds108.eq_1 _ _ _) ?_
  have o1500 : (0 ≤ (0 : Int32).toInt) ∧ ((0 : Int32).toInt ≤ 40) := by have := (by decide : ((0 : Int32)).toInt = 0); exact ⟨by omega, by omega⟩
  refine hq_Pr_finds108_2 FU _ w hI  o1500.1 o1500.2 (fu_lt (by have := (by decide : ((0 : Int32)).toInt = 0); omega)) (fun w1501 hI1502 hL1503  => ?_) (fun r w9 hI9 hF9 q0 q1 => hQ r w9 hI9 (((FR.refl _ w)).tr hF9 rfl) (by have := (by decide : ((0 : Int32)).toInt = 0); omega) (by have := (by decide : ((0 : Int32)).toInt = 0); omega))
  have hF1504 : FR l_Pr_finds108 w w1501 := (FR.refl _ w).tr hL1503 rfl
  have o1505 : ((-1) ≤ ((-1) : Int32).toInt) ∧ (((-1) : Int32).toInt ≤ 39) := by have := (by decide : (((-1) : Int32)).toInt = (-1)); exact ⟨by omega, by omega⟩
  exact hQ _ _ hI1502 hF1504  o1505.1 o1505.2
def l_Rd_take : Pl := [(87, some 2), (87, some 3), (87, some 4), (87, some 5), (87, some 6), (87, some 7), (87, some 9)]
set_option maxRecDepth 20000 in
set_option maxHeartbeats 2000000 in
theorem h_Rd_take {w : MW} {a0 : Int32} {Q : MW → Prop} (hI : BND w) (hr_87_0 : w.2.2 87 0 = some 1) (hp0 : 15 ≤ a0.toInt) (hp1 : a0.toInt ≤ 125) (hQ : ∀ (w' : MW), BND w' → FR l_Rd_take w w' → Q w') : p_Rd_take w a0 Q := by
  refine Eq.mpr (p_Rd_take.eq_1 _ _ _) ?_
  refine ⟨fun h1506 => ?_, fun h1506 => ?_⟩
  · refine Eq.mpr (p_Rd_fail.eq_1 _ _) ?_
    refine ⟨fun _ => ?_, fun h => absurd h1506 h⟩
    exact hQ _ hI (FR.refl _ w) 
  · refine ⟨fun h1507 => ?_, fun h1507 => ?_⟩
    · refine h_Rd_nextWord hI hr_87_0  (fun w1508 hI1509 hL1510  => ?_)
      have hF1512 : FR l_Rd_take w w1508 := (FR.refl _ w).tr hL1510 rfl
      exact hQ _ hI1509 hF1512 
    · refine Eq.mpr (p_Rd_fail.eq_1 _ _) ?_
      refine ⟨fun h => absurd h h1506, fun _ => ?_⟩
      have hI1513 : BND (sI w 87 9 (w.1 87 4)) := wbd_87_9 hI
      exact hQ _ hI1513 (FR.I (FR.refl _ w) (k := 87) (j := 9) (v := (w.1 87 4)) rfl) 
def l_Rd_takeName_31 : Pl := [(87, some 2), (87, some 3), (87, some 4), (87, some 5), (87, some 6), (87, some 7), (87, some 9)]
def l_Rd_takeName : Pl := [(87, some 2), (87, some 3), (87, some 4), (87, some 5), (87, some 6), (87, some 7), (87, some 9)]
set_option maxRecDepth 20000 in
set_option maxHeartbeats 2000000 in
theorem h_Rd_takeName {w : MW} {a0 : Int32} {Q : Int32 → MW → Prop} (hI : BND w) (hr_87_0 : w.2.2 87 0 = some 1) (hr_87_1 : w.2.2 87 1 = some 108) (hp0 : 8 ≤ a0.toInt) (hp1 : a0.toInt ≤ 10) (hQ : ∀ (r : Int32) (w' : MW), BND w' → FR l_Rd_takeName w w' → (-1) ≤ r.toInt → r.toInt ≤ 39 → Q r w') : p_Rd_takeName w a0 Q := by
  refine Eq.mpr (p_Rd_takeName.eq_1 _ _ _) ?_
  refine ⟨fun h1514 => ?_, fun h1514 => ?_⟩
  · refine Eq.mpr (q_Rd_takeName_31.eq_1 _ _ _ _) ?_
    refine ⟨fun _ => ?_, fun h => absurd (by decide) h⟩
    refine Eq.mpr (p_Rd_fail.eq_1 _ _) ?_
    refine ⟨fun _ => ?_, fun h => absurd h1514 h⟩
    have o1515 : ((-1) ≤ ((-1) : Int32).toInt) ∧ (((-1) : Int32).toInt ≤ 39) := by have := (by decide : (((-1) : Int32)).toInt = (-1)); exact ⟨by omega, by omega⟩
    exact hQ _ _ hI (FR.refl _ w)  o1515.1 o1515.2
  · refine ⟨fun h1516 => ?_, fun h1516 => ?_⟩
    · refine Eq.mpr (q_Rd_takeName_31.eq_1 _ _ _ _) ?_
      refine ⟨fun _ => ?_, fun h => absurd (by decide) h⟩
      refine Eq.mpr (p_Rd_fail.eq_1 _ _) ?_
      refine ⟨fun h => absurd h h1514, fun _ => ?_⟩
      have hI1517 : BND (sI w 87 9 (w.1 87 4)) := wbd_87_9 hI
      have o1518 : ((-1) ≤ ((-1) : Int32).toInt) ∧ (((-1) : Int32).toInt ≤ 39) := by have := (by decide : (((-1) : Int32)).toInt = (-1)); exact ⟨by omega, by omega⟩
      exact hQ _ _ hI1517 (FR.I (FR.refl _ w) (k := 87) (j := 9) (v := (w.1 87 4)) rfl)  o1518.1 o1518.2
    · refine ⟨hr_87_1, ?_⟩
      refine h_Pr_finds108 hI   (fun r1522 w1519 hI1520 hL1521 p1523 p1524 => ?_)
      have hF1525 : FR l_Rd_takeName w w1519 := (FR.refl _ w).tr hL1521 rfl
      refine Eq.mpr (q_Rd_takeName_31.eq_1 _ _ _ _) ?_
      refine ⟨fun h1526 => ?_, fun h1526 => ?_⟩
      · refine Eq.mpr (p_Rd_fail.eq_1 _ _) ?_
        refine ⟨fun h1527 => ?_, fun h1527 => ?_⟩
        · have o1528 : ((-1) ≤ ((-1) : Int32).toInt) ∧ (((-1) : Int32).toInt ≤ 39) := by have := (by decide : (((-1) : Int32)).toInt = (-1)); exact ⟨by omega, by omega⟩
          exact hQ _ _ hI1520 hF1525  o1528.1 o1528.2
        · have hI1529 : BND (sI w1519 87 9 (w1519.1 87 4)) := wbd_87_9 hI1520
          have o1530 : ((-1) ≤ ((-1) : Int32).toInt) ∧ (((-1) : Int32).toInt ≤ 39) := by have := (by decide : (((-1) : Int32)).toInt = (-1)); exact ⟨by omega, by omega⟩
          exact hQ _ _ hI1529 (FR.I hF1525 (k := 87) (j := 9) (v := (w1519.1 87 4)) rfl)  o1530.1 o1530.2
      · refine ⟨((hL1521 87 1 rfl).2.2.trans hr_87_1), ?_⟩
        have o1531 : 0 ≤ r1522.toInt ∧ r1522.toInt < 40 := by have := (by decide : ((0 : Int32)).toInt = 0); omega
        refine ⟨o1531, ?_⟩
        refine ⟨fun h1532 => ?_, fun h1532 => ?_⟩
        · refine h_Rd_nextWord hI1520 ((hL1521 87 0 rfl).2.2.trans hr_87_0)  (fun w1533 hI1534 hL1535  => ?_)
          have hF1537 : FR l_Rd_takeName w w1533 := hF1525.tr hL1535 rfl
          have o1538 : ((-1) ≤ r1522.toInt) ∧ (r1522.toInt ≤ 39) := by have := (by decide : ((0 : Int32)).toInt = 0); exact ⟨by omega, by omega⟩
          exact hQ _ _ hI1534 hF1537  o1538.1 o1538.2
        · refine Eq.mpr (p_Rd_fail.eq_1 _ _) ?_
          refine ⟨fun h1539 => ?_, fun h1539 => ?_⟩
          · have o1540 : ((-1) ≤ ((-1) : Int32).toInt) ∧ (((-1) : Int32).toInt ≤ 39) := by have := (by decide : (((-1) : Int32)).toInt = (-1)); exact ⟨by omega, by omega⟩
            exact hQ _ _ hI1520 hF1525  o1540.1 o1540.2
          · have hI1541 : BND (sI w1519 87 9 (w1519.1 87 4)) := wbd_87_9 hI1520
            have o1542 : ((-1) ≤ ((-1) : Int32).toInt) ∧ (((-1) : Int32).toInt ≤ 39) := by have := (by decide : (((-1) : Int32)).toInt = (-1)); exact ⟨by omega, by omega⟩
            exact hQ _ _ hI1541 (FR.I hF1525 (k := 87) (j := 9) (v := (w1519.1 87 4)) rfl)  o1542.1 o1542.2
def l_Rd_takeNewName : Pl := [(87, some 2), (87, some 3), (87, some 4), (87, some 5), (87, some 6), (87, some 7), (87, some 9)]
set_option maxRecDepth 20000 in
set_option maxHeartbeats 2000000 in
theorem h_Rd_takeNewName {w : MW} {Q : Int64 → MW → Prop} (hI : BND w) (hr_87_0 : w.2.2 87 0 = some 1) (hr_87_1 : w.2.2 87 1 = some 108)  (hQ : ∀ (r : Int64) (w' : MW), BND w' → FR l_Rd_takeNewName w w' → Q r w') : p_Rd_takeNewName w Q := by
  refine Eq.mpr (p_Rd_takeNewName.eq_1 _ _) ?_
  refine h_Rd_nextWord hI hr_87_0  (fun w1543 hI1544 hL1545  => ?_)
  have hF1547 : FR l_Rd_takeNewName w w1543 := (FR.refl _ w).tr hL1545 rfl
  refine ⟨fun h1548 => ?_, fun h1548 => ?_⟩
  · refine Eq.mpr (p_Rd_fail.eq_1 _ _) ?_
    refine ⟨fun h1549 => ?_, fun h1549 => ?_⟩
    · exact hQ _ _ hI1544 hF1547
    · have hI1550 : BND (sI w1543 87 9 (w1543.1 87 4)) := wbd_87_9 hI1544
      exact hQ _ _ hI1550 (FR.I hF1547 (k := 87) (j := 9) (v := (w1543.1 87 4)) rfl) 
  · refine ⟨((hL1545 87 1 rfl).2.2.trans hr_87_1), ?_⟩
    refine h_Pr_finds108 hI1544   (fun r1554 w1551 hI1552 hL1553 p1555 p1556 => ?_)
    have hF1557 : FR l_Rd_takeNewName w w1551 := hF1547.tr hL1553 rfl
    refine ⟨fun h1558 => ?_, fun h1558 => ?_⟩
    · refine Eq.mpr (p_Rd_fail.eq_1 _ _) ?_
      refine ⟨fun h1559 => ?_, fun h1559 => ?_⟩
      · exact hQ _ _ hI1552 hF1557
      · have hI1560 : BND (sI w1551 87 9 (w1551.1 87 4)) := wbd_87_9 hI1552
        exact hQ _ _ hI1560 (FR.I hF1557 (k := 87) (j := 9) (v := (w1551.1 87 4)) rfl) 
    · refine ⟨((hL1553 87 1 rfl).2.2.trans ((hL1545 87 1 rfl).2.2.trans hr_87_1)), ?_⟩
      refine ⟨fun h1561 => ?_, fun h1561 => ?_⟩
      · refine h_Rd_nextWord hI1552 ((hL1553 87 0 rfl).2.2.trans ((hL1545 87 0 rfl).2.2.trans hr_87_0))  (fun w1562 hI1563 hL1564  => ?_)
        have hF1566 : FR l_Rd_takeNewName w w1562 := hF1557.tr hL1564 rfl
        exact hQ _ _ hI1563 hF1566 
      · refine Eq.mpr (p_Rd_fail.eq_1 _ _) ?_
        refine ⟨fun h1567 => ?_, fun h1567 => ?_⟩
        · exact hQ _ _ hI1552 hF1557
        · have hI1568 : BND (sI w1551 87 9 (w1551.1 87 4)) := wbd_87_9 hI1552
          exact hQ _ _ hI1568 (FR.I hF1557 (k := 87) (j := 9) (v := (w1551.1 87 4)) rfl) 
def l_Rd_takeUnit : Pl := [(87, some 2), (87, some 3), (87, some 4), (87, some 5), (87, some 6), (87, some 7), (87, some 9)]
set_option maxRecDepth 20000 in
set_option maxHeartbeats 2000000 in
theorem h_Rd_takeUnit {w : MW} {Q : Int32 → MW → Prop} (hI : BND w) (hr_87_0 : w.2.2 87 0 = some 1)  (hQ : ∀ (r : Int32) (w' : MW), BND w' → FR l_Rd_takeUnit w w' → 0 ≤ r.toInt → r.toInt ≤ 5 → Q r w') : p_Rd_takeUnit w Q := by
  refine Eq.mpr (p_Rd_takeUnit.eq_1 _ _) ?_
  refine ⟨fun h1569 => ?_, fun h1569 => ?_⟩
  · have o1570 : (0 ≤ (0 : Int32).toInt) ∧ ((0 : Int32).toInt ≤ 5) := by have := (by decide : ((0 : Int32)).toInt = 0); exact ⟨by omega, by omega⟩
    exact hQ _ _ hI (FR.refl _ w)  o1570.1 o1570.2
  · refine ⟨fun h1571 => ?_, fun h1571 => ?_⟩
    · have o1572 : (0 ≤ (0 : Int32).toInt) ∧ ((0 : Int32).toInt ≤ 5) := by have := (by decide : ((0 : Int32)).toInt = 0); exact ⟨by omega, by omega⟩
      exact hQ _ _ hI (FR.refl _ w)  o1572.1 o1572.2
    · refine ⟨fun h1573 => ?_, fun h1573 => ?_⟩
      · refine h_Rd_nextWord hI hr_87_0  (fun w1574 hI1575 hL1576  => ?_)
        have hF1578 : FR l_Rd_takeUnit w w1574 := (FR.refl _ w).tr hL1576 rfl
        have o1579 : (0 ≤ (w.1 87 3).toInt) ∧ ((w.1 87 3).toInt ≤ 5) := by have := (by decide : ((1 : Int32)).toInt = 1); have := (by decide : ((5 : Int32)).toInt = 5); exact ⟨by omega, by omega⟩
        exact hQ _ _ hI1575 hF1578  o1579.1 o1579.2
      · have o1580 : (0 ≤ (0 : Int32).toInt) ∧ ((0 : Int32).toInt ≤ 5) := by have := (by decide : ((0 : Int32)).toInt = 0); exact ⟨by omega, by omega⟩
        exact hQ _ _ hI (FR.refl _ w)  o1580.1 o1580.2
def l_Ro_nextWords99_8 : Pl := [(99, some 12)]
def l_Ro_nextWords99_60 : Pl := [(99, some 13)]
def l_Ro_nextWords99 : Pl := [(99, some 12), (99, some 13), (99, some 14)]
set_option maxRecDepth 20000 in
set_option maxHeartbeats 2000000 in
theorem hq_Ro_nextWords99_8 {E : MW → Prop} {Q : MW → Prop} (n : Nat) : ∀ (w : MW), BND w → w.2.2 99 11 = some 1 → (4000 - (w.1 99 12).toInt).toNat < n → (∀ (w' : MW), BND w' → FR l_Ro_nextWords99_8 w w' → E w') → (∀ (w' : MW), BND w' → FR l_Ro_nextWords99_8 w w' → False → Q w') → q_Ro_nextWords99_8 E Q n w := by
  induction n with
  | zero => intros; omega
  | succ n ih =>
    intro w hI hr_99_11  hm hE hQ
    rw [q_Ro_nextWords99_8.eq_2]
    refine ⟨hr_99_11, ?_⟩
    refine ⟨fun h1581 => ?_, fun h1581 => ?_⟩
    · exact hE _ hI (FR.refl _ w)
    · refine ⟨hr_99_11, ?_⟩
      refine Eq.mpr (p_Tp_at.eq_1 _ _ _) ?_
      refine ⟨fun h1582 => ?_, fun h1582 => ?_⟩
      · exfalso; have := bd_99_12 hI; have := bd_1_2 hI; have := (by decide : ((0 : Int32)).toInt = 0); omega
      · refine ⟨fun h => absurd h h1581, fun _ => ?_⟩
        refine ⟨fun h1583 => ?_, fun h1583 => ?_⟩
        · have o1584 : 0 ≤ ((w.1 99 12) >>> ((2 : Int32) &&& 31)).toInt ∧ ((w.1 99 12) >>> ((2 : Int32) &&& 31)).toInt < 1005 := by have := bd_99_12 hI; have := nb_shr (w.1 99 12) ((2 : Int32) &&& 31) 2 4 rfl rfl; have := bd_1_2 hI; have := (by decide : ((0 : Int32)).toInt = 0); have := ti_mul2 (by decide : ((4 : Int32)).toInt = 4) (by decide : ((1005 : Int32)).toInt = 1005) (by omega) (by omega); omega
          refine ⟨o1584, ?_⟩
          refine Eq.mpr (p_Tp_isBlank.eq_1 _ _ _) ?_
          refine ⟨fun h1585 => ?_, fun h1585 => ?_⟩
          · refine ⟨fun h => absurd h (by decide), fun _ => ?_⟩
            have o1587 : 0 ≤ ((w.1 99 12) + (1 : Int32)).toInt ∧ ((w.1 99 12) + (1 : Int32)).toInt ≤ 4000 := by have := bd_99_12 hI; have := ti_add2 (Eq.refl (w.1 99 12).toInt) (by decide : ((1 : Int32)).toInt = 1) (by omega) (by omega); have := bd_1_2 hI; have := (by decide : ((0 : Int32)).toInt = 0); have := ti_mul2 (by decide : ((4 : Int32)).toInt = 4) (by decide : ((1005 : Int32)).toInt = 1005) (by omega) (by omega); have := ti_lo ((((w.1 2 (((w.1 99 12) >>> ((2 : Int32) &&& 31)).toInt.toNat)).toUInt32 >>> (((24 : Int32) - ((8 : Int32) * ((w.1 99 12) &&& (3 : Int32)))).toUInt32 &&& Int32.toUInt32 31)).toInt32) &&& (255 : Int32)); have := ti_hi ((((w.1 2 (((w.1 99 12) >>> ((2 : Int32) &&& 31)).toInt.toNat)).toUInt32 >>> (((24 : Int32) - ((8 : Int32) * ((w.1 99 12) &&& (3 : Int32)))).toUInt32 &&& Int32.toUInt32 31)).toInt32) &&& (255 : Int32)); have := ti_lo (((w.1 2 (((w.1 99 12) >>> ((2 : Int32) &&& 31)).toInt.toNat)).toUInt32 >>> (((24 : Int32) - ((8 : Int32) * ((w.1 99 12) &&& (3 : Int32)))).toUInt32 &&& Int32.toUInt32 31)).toInt32); have := ti_hi (((w.1 2 (((w.1 99 12) >>> ((2 : Int32) &&& 31)).toInt.toNat)).toUInt32 >>> (((24 : Int32) - ((8 : Int32) * ((w.1 99 12) &&& (3 : Int32)))).toUInt32 &&& Int32.toUInt32 31)).toInt32); have := ti_lo ((w.1 99 12) &&& (3 : Int32)); have := ti_hi ((w.1 99 12) &&& (3 : Int32)); have := nb_and (w.1 99 12) (3 : Int32) 3 rfl (by decide); have := ti_mul2 (by decide : ((8 : Int32)).toInt = 8) (Eq.refl ((w.1 99 12) &&& (3 : Int32)).toInt) (by omega) (by omega); have := ti_sub2 (by decide : ((24 : Int32)).toInt = 24) (Eq.refl ((8 : Int32) * ((w.1 99 12) &&& (3 : Int32))).toInt) (by omega) (by omega); have := nb_and (((w.1 2 (((w.1 99 12) >>> ((2 : Int32) &&& 31)).toInt.toNat)).toUInt32 >>> (((24 : Int32) - ((8 : Int32) * ((w.1 99 12) &&& (3 : Int32)))).toUInt32 &&& Int32.toUInt32 31)).toInt32) (255 : Int32) 255 rfl (by decide); have := (by decide : ((32 : Int32)).toInt = 32); omega
            have hI1586 : BND (sI w 99 12 ((w.1 99 12) + (1 : Int32))) := wbd_99_12 hI o1587.1 o1587.2
            exact ih (sI w 99 12 ((w.1 99 12) + (1 : Int32))) hI1586 hr_99_11  (by have := bd_99_12 hI; have := ti_add2 (Eq.refl (w.1 99 12).toInt) (by decide : ((1 : Int32)).toInt = 1) (by omega) (by omega); have : ((sI w 99 12 ((w.1 99 12) + (1 : Int32))).1 99 12).toInt = ((w.1 99 12) + (1 : Int32)).toInt := rfl; have := bd_1_2 hI; have := (by decide : ((0 : Int32)).toInt = 0); have := ti_mul2 (by decide : ((4 : Int32)).toInt = 4) (by decide : ((1005 : Int32)).toInt = 1005) (by omega) (by omega); have := ti_lo ((((w.1 2 (((w.1 99 12) >>> ((2 : Int32) &&& 31)).toInt.toNat)).toUInt32 >>> (((24 : Int32) - ((8 : Int32) * ((w.1 99 12) &&& (3 : Int32)))).toUInt32 &&& Int32.toUInt32 31)).toInt32) &&& (255 : Int32)); have := ti_hi ((((w.1 2 (((w.1 99 12) >>> ((2 : Int32) &&& 31)).toInt.toNat)).toUInt32 >>> (((24 : Int32) - ((8 : Int32) * ((w.1 99 12) &&& (3 : Int32)))).toUInt32 &&& Int32.toUInt32 31)).toInt32) &&& (255 : Int32)); have := ti_lo (((w.1 2 (((w.1 99 12) >>> ((2 : Int32) &&& 31)).toInt.toNat)).toUInt32 >>> (((24 : Int32) - ((8 : Int32) * ((w.1 99 12) &&& (3 : Int32)))).toUInt32 &&& Int32.toUInt32 31)).toInt32); have := ti_hi (((w.1 2 (((w.1 99 12) >>> ((2 : Int32) &&& 31)).toInt.toNat)).toUInt32 >>> (((24 : Int32) - ((8 : Int32) * ((w.1 99 12) &&& (3 : Int32)))).toUInt32 &&& Int32.toUInt32 31)).toInt32); have := ti_lo ((w.1 99 12) &&& (3 : Int32)); have := ti_hi ((w.1 99 12) &&& (3 : Int32)); have := nb_and (w.1 99 12) (3 : Int32) 3 rfl (by decide); have := ti_mul2 (by decide : ((8 : Int32)).toInt = 8) (Eq.refl ((w.1 99 12) &&& (3 : Int32)).toInt) (by omega) (by omega); have := ti_sub2 (by decide : ((24 : Int32)).toInt = 24) (Eq.refl ((8 : Int32) * ((w.1 99 12) &&& (3 : Int32))).toInt) (by omega) (by omega); have := nb_and (((w.1 2 (((w.1 99 12) >>> ((2 : Int32) &&& 31)).toInt.toNat)).toUInt32 >>> (((24 : Int32) - ((8 : Int32) * ((w.1 99 12) &&& (3 : Int32)))).toUInt32 &&& Int32.toUInt32 31)).toInt32) (255 : Int32) 255 rfl (by decide); have := (by decide : ((32 : Int32)).toInt = 32); omega) (fun w9 hI9 hF9 => hE w9 hI9 ((FR.I (FR.refl _ w) (k := 99) (j := 12) (v := ((w.1 99 12) + (1 : Int32))) rfl).tr hF9 rfl) ) (fun w9 hI9 hF9 q0 => q0.elim)
          · refine ⟨fun h1588 => ?_, fun h1588 => ?_⟩
            · refine ⟨fun _ => ?_, fun h => absurd (by decide) h⟩
              exact hE _ hI (FR.refl _ w) 
            · refine ⟨fun h => absurd h (by decide), fun _ => ?_⟩
              have o1590 : 0 ≤ ((w.1 99 12) + (1 : Int32)).toInt ∧ ((w.1 99 12) + (1 : Int32)).toInt ≤ 4000 := by have := bd_99_12 hI; have := ti_add2 (Eq.refl (w.1 99 12).toInt) (by decide : ((1 : Int32)).toInt = 1) (by omega) (by omega); have := bd_1_2 hI; have := (by decide : ((0 : Int32)).toInt = 0); have := ti_mul2 (by decide : ((4 : Int32)).toInt = 4) (by decide : ((1005 : Int32)).toInt = 1005) (by omega) (by omega); have := ti_lo ((((w.1 2 (((w.1 99 12) >>> ((2 : Int32) &&& 31)).toInt.toNat)).toUInt32 >>> (((24 : Int32) - ((8 : Int32) * ((w.1 99 12) &&& (3 : Int32)))).toUInt32 &&& Int32.toUInt32 31)).toInt32) &&& (255 : Int32)); have := ti_hi ((((w.1 2 (((w.1 99 12) >>> ((2 : Int32) &&& 31)).toInt.toNat)).toUInt32 >>> (((24 : Int32) - ((8 : Int32) * ((w.1 99 12) &&& (3 : Int32)))).toUInt32 &&& Int32.toUInt32 31)).toInt32) &&& (255 : Int32)); have := ti_lo (((w.1 2 (((w.1 99 12) >>> ((2 : Int32) &&& 31)).toInt.toNat)).toUInt32 >>> (((24 : Int32) - ((8 : Int32) * ((w.1 99 12) &&& (3 : Int32)))).toUInt32 &&& Int32.toUInt32 31)).toInt32); have := ti_hi (((w.1 2 (((w.1 99 12) >>> ((2 : Int32) &&& 31)).toInt.toNat)).toUInt32 >>> (((24 : Int32) - ((8 : Int32) * ((w.1 99 12) &&& (3 : Int32)))).toUInt32 &&& Int32.toUInt32 31)).toInt32); have := ti_lo ((w.1 99 12) &&& (3 : Int32)); have := ti_hi ((w.1 99 12) &&& (3 : Int32)); have := nb_and (w.1 99 12) (3 : Int32) 3 rfl (by decide); have := ti_mul2 (by decide : ((8 : Int32)).toInt = 8) (Eq.refl ((w.1 99 12) &&& (3 : Int32)).toInt) (by omega) (by omega); have := ti_sub2 (by decide : ((24 : Int32)).toInt = 24) (Eq.refl ((8 : Int32) * ((w.1 99 12) &&& (3 : Int32))).toInt) (by omega) (by omega); have := nb_and (((w.1 2 (((w.1 99 12) >>> ((2 : Int32) &&& 31)).toInt.toNat)).toUInt32 >>> (((24 : Int32) - ((8 : Int32) * ((w.1 99 12) &&& (3 : Int32)))).toUInt32 &&& Int32.toUInt32 31)).toInt32) (255 : Int32) 255 rfl (by decide); have := (by decide : ((32 : Int32)).toInt = 32); have := (by decide : ((10 : Int32)).toInt = 10); omega
              have hI1589 : BND (sI w 99 12 ((w.1 99 12) + (1 : Int32))) := wbd_99_12 hI o1590.1 o1590.2
              exact ih (sI w 99 12 ((w.1 99 12) + (1 : Int32))) hI1589 hr_99_11  (by have := bd_99_12 hI; have := ti_add2 (Eq.refl (w.1 99 12).toInt) (by decide : ((1 : Int32)).toInt = 1) (by omega) (by omega); have : ((sI w 99 12 ((w.1 99 12) + (1 : Int32))).1 99 12).toInt = ((w.1 99 12) + (1 : Int32)).toInt := rfl; have := bd_1_2 hI; have := (by decide : ((0 : Int32)).toInt = 0); have := ti_mul2 (by decide : ((4 : Int32)).toInt = 4) (by decide : ((1005 : Int32)).toInt = 1005) (by omega) (by omega); have := ti_lo ((((w.1 2 (((w.1 99 12) >>> ((2 : Int32) &&& 31)).toInt.toNat)).toUInt32 >>> (((24 : Int32) - ((8 : Int32) * ((w.1 99 12) &&& (3 : Int32)))).toUInt32 &&& Int32.toUInt32 31)).toInt32) &&& (255 : Int32)); have := ti_hi ((((w.1 2 (((w.1 99 12) >>> ((2 : Int32) &&& 31)).toInt.toNat)).toUInt32 >>> (((24 : Int32) - ((8 : Int32) * ((w.1 99 12) &&& (3 : Int32)))).toUInt32 &&& Int32.toUInt32 31)).toInt32) &&& (255 : Int32)); have := ti_lo (((w.1 2 (((w.1 99 12) >>> ((2 : Int32) &&& 31)).toInt.toNat)).toUInt32 >>> (((24 : Int32) - ((8 : Int32) * ((w.1 99 12) &&& (3 : Int32)))).toUInt32 &&& Int32.toUInt32 31)).toInt32); have := ti_hi (((w.1 2 (((w.1 99 12) >>> ((2 : Int32) &&& 31)).toInt.toNat)).toUInt32 >>> (((24 : Int32) - ((8 : Int32) * ((w.1 99 12) &&& (3 : Int32)))).toUInt32 &&& Int32.toUInt32 31)).toInt32); have := ti_lo ((w.1 99 12) &&& (3 : Int32)); have := ti_hi ((w.1 99 12) &&& (3 : Int32)); have := nb_and (w.1 99 12) (3 : Int32) 3 rfl (by decide); have := ti_mul2 (by decide : ((8 : Int32)).toInt = 8) (Eq.refl ((w.1 99 12) &&& (3 : Int32)).toInt) (by omega) (by omega); have := ti_sub2 (by decide : ((24 : Int32)).toInt = 24) (Eq.refl ((8 : Int32) * ((w.1 99 12) &&& (3 : Int32))).toInt) (by omega) (by omega); have := nb_and (((w.1 2 (((w.1 99 12) >>> ((2 : Int32) &&& 31)).toInt.toNat)).toUInt32 >>> (((24 : Int32) - ((8 : Int32) * ((w.1 99 12) &&& (3 : Int32)))).toUInt32 &&& Int32.toUInt32 31)).toInt32) (255 : Int32) 255 rfl (by decide); have := (by decide : ((32 : Int32)).toInt = 32); have := (by decide : ((10 : Int32)).toInt = 10); omega) (fun w9 hI9 hF9 => hE w9 hI9 ((FR.I (FR.refl _ w) (k := 99) (j := 12) (v := ((w.1 99 12) + (1 : Int32))) rfl).tr hF9 rfl) ) (fun w9 hI9 hF9 q0 => q0.elim)
        · exfalso; have := bd_99_12 hI; have := bd_1_2 hI; have := (by decide : ((0 : Int32)).toInt = 0); have := ti_mul2 (by decide : ((4 : Int32)).toInt = 4) (by decide : ((1005 : Int32)).toInt = 1005) (by omega) (by omega); omega
set_option maxRecDepth 20000 in
set_option maxHeartbeats 2000000 in
theorem hq_Ro_nextWords99_60 {E : MW → Prop} {Q : MW → Prop} (n : Nat) : ∀ (w : MW), BND w → w.2.2 99 11 = some 1 → (4000 - (w.1 99 13).toInt).toNat < n → (∀ (w' : MW), BND w' → FR l_Ro_nextWords99_60 w w' → E w') → (∀ (w' : MW), BND w' → FR l_Ro_nextWords99_60 w w' → False → Q w') → q_Ro_nextWords99_60 E Q n w := by
  induction n with
  | zero => intros; omega
  | succ n ih =>
    intro w hI hr_99_11  hm hE hQ
    rw [q_Ro_nextWords99_60.eq_2]
    refine ⟨hr_99_11, ?_⟩
    refine ⟨fun h1591 => ?_, fun h1591 => ?_⟩
    · exact hE _ hI (FR.refl _ w)
    · refine ⟨hr_99_11, ?_⟩
      refine Eq.mpr (p_Tp_at.eq_1 _ _ _) ?_
      refine ⟨fun h1592 => ?_, fun h1592 => ?_⟩
      · exfalso; have := bd_99_13 hI; have := bd_1_2 hI; have := (by decide : ((0 : Int32)).toInt = 0); omega
      · refine ⟨fun h => absurd h h1591, fun _ => ?_⟩
        refine ⟨fun h1593 => ?_, fun h1593 => ?_⟩
        · have o1594 : 0 ≤ ((w.1 99 13) >>> ((2 : Int32) &&& 31)).toInt ∧ ((w.1 99 13) >>> ((2 : Int32) &&& 31)).toInt < 1005 := by have := bd_99_13 hI; have := nb_shr (w.1 99 13) ((2 : Int32) &&& 31) 2 4 rfl rfl; have := bd_1_2 hI; have := (by decide : ((0 : Int32)).toInt = 0); have := ti_mul2 (by decide : ((4 : Int32)).toInt = 4) (by decide : ((1005 : Int32)).toInt = 1005) (by omega) (by omega); omega
          refine ⟨o1594, ?_⟩
          refine Eq.mpr (p_Tp_isBlank.eq_1 _ _ _) ?_
          refine ⟨fun h1595 => ?_, fun h1595 => ?_⟩
          · refine ⟨fun _ => ?_, fun h => absurd (by decide) h⟩
            exact hE _ hI (FR.refl _ w) 
          · refine ⟨fun h1596 => ?_, fun h1596 => ?_⟩
            · refine ⟨fun h => absurd h (by decide), fun _ => ?_⟩
              refine ⟨hr_99_11, ?_⟩
              refine Eq.mpr (p_Tp_at.eq_1 _ _ _) ?_
              refine ⟨fun h => absurd h h1592, fun _ => ?_⟩
              refine ⟨fun h => absurd h h1591, fun _ => ?_⟩
              refine ⟨fun _ => ?_, fun h => absurd h1593 h⟩
              have o1597 : 0 ≤ ((w.1 99 13) >>> ((2 : Int32) &&& 31)).toInt ∧ ((w.1 99 13) >>> ((2 : Int32) &&& 31)).toInt < 1005 := by have := bd_99_13 hI; have := nb_shr (w.1 99 13) ((2 : Int32) &&& 31) 2 4 rfl rfl; have := bd_1_2 hI; have := (by decide : ((0 : Int32)).toInt = 0); have := ti_mul2 (by decide : ((4 : Int32)).toInt = 4) (by decide : ((1005 : Int32)).toInt = 1005) (by omega) (by omega); have := ti_lo ((((w.1 2 (((w.1 99 13) >>> ((2 : Int32) &&& 31)).toInt.toNat)).toUInt32 >>> (((24 : Int32) - ((8 : Int32) * ((w.1 99 13) &&& (3 : Int32)))).toUInt32 &&& Int32.toUInt32 31)).toInt32) &&& (255 : Int32)); have := ti_hi ((((w.1 2 (((w.1 99 13) >>> ((2 : Int32) &&& 31)).toInt.toNat)).toUInt32 >>> (((24 : Int32) - ((8 : Int32) * ((w.1 99 13) &&& (3 : Int32)))).toUInt32 &&& Int32.toUInt32 31)).toInt32) &&& (255 : Int32)); have := ti_lo (((w.1 2 (((w.1 99 13) >>> ((2 : Int32) &&& 31)).toInt.toNat)).toUInt32 >>> (((24 : Int32) - ((8 : Int32) * ((w.1 99 13) &&& (3 : Int32)))).toUInt32 &&& Int32.toUInt32 31)).toInt32); have := ti_hi (((w.1 2 (((w.1 99 13) >>> ((2 : Int32) &&& 31)).toInt.toNat)).toUInt32 >>> (((24 : Int32) - ((8 : Int32) * ((w.1 99 13) &&& (3 : Int32)))).toUInt32 &&& Int32.toUInt32 31)).toInt32); have := ti_lo ((w.1 99 13) &&& (3 : Int32)); have := ti_hi ((w.1 99 13) &&& (3 : Int32)); have := nb_and (w.1 99 13) (3 : Int32) 3 rfl (by decide); have := ti_mul2 (by decide : ((8 : Int32)).toInt = 8) (Eq.refl ((w.1 99 13) &&& (3 : Int32)).toInt) (by omega) (by omega); have := ti_sub2 (by decide : ((24 : Int32)).toInt = 24) (Eq.refl ((8 : Int32) * ((w.1 99 13) &&& (3 : Int32))).toInt) (by omega) (by omega); have := nb_and (((w.1 2 (((w.1 99 13) >>> ((2 : Int32) &&& 31)).toInt.toNat)).toUInt32 >>> (((24 : Int32) - ((8 : Int32) * ((w.1 99 13) &&& (3 : Int32)))).toUInt32 &&& Int32.toUInt32 31)).toInt32) (255 : Int32) 255 rfl (by decide); have := (by decide : ((32 : Int32)).toInt = 32); have := (by decide : ((10 : Int32)).toInt = 10); omega
              refine ⟨o1597, ?_⟩
              refine Eq.mpr (p_Ro_isMark.eq_1 _ _ _) ?_
              refine ⟨fun h1598 => ?_, fun h1598 => ?_⟩
              · refine ⟨fun _ => ?_, fun h => absurd (by decide) h⟩
                exact hE _ hI (FR.refl _ w) 
              · refine ⟨fun h1599 => ?_, fun h1599 => ?_⟩
                · refine ⟨fun _ => ?_, fun h => absurd (by decide) h⟩
                  exact hE _ hI (FR.refl _ w) 
                · refine ⟨fun h1600 => ?_, fun h1600 => ?_⟩
                  · refine ⟨fun h => absurd h (by decide), fun _ => ?_⟩
                    have o1602 : 0 ≤ ((w.1 99 13) + (1 : Int32)).toInt ∧ ((w.1 99 13) + (1 : Int32)).toInt ≤ 4000 := by have := bd_99_13 hI; have := ti_add2 (Eq.refl (w.1 99 13).toInt) (by decide : ((1 : Int32)).toInt = 1) (by omega) (by omega); have := bd_1_2 hI; have := (by decide : ((0 : Int32)).toInt = 0); have := ti_mul2 (by decide : ((4 : Int32)).toInt = 4) (by decide : ((1005 : Int32)).toInt = 1005) (by omega) (by omega); have := ti_lo ((((w.1 2 (((w.1 99 13) >>> ((2 : Int32) &&& 31)).toInt.toNat)).toUInt32 >>> (((24 : Int32) - ((8 : Int32) * ((w.1 99 13) &&& (3 : Int32)))).toUInt32 &&& Int32.toUInt32 31)).toInt32) &&& (255 : Int32)); have := ti_hi ((((w.1 2 (((w.1 99 13) >>> ((2 : Int32) &&& 31)).toInt.toNat)).toUInt32 >>> (((24 : Int32) - ((8 : Int32) * ((w.1 99 13) &&& (3 : Int32)))).toUInt32 &&& Int32.toUInt32 31)).toInt32) &&& (255 : Int32)); have := ti_lo (((w.1 2 (((w.1 99 13) >>> ((2 : Int32) &&& 31)).toInt.toNat)).toUInt32 >>> (((24 : Int32) - ((8 : Int32) * ((w.1 99 13) &&& (3 : Int32)))).toUInt32 &&& Int32.toUInt32 31)).toInt32); have := ti_hi (((w.1 2 (((w.1 99 13) >>> ((2 : Int32) &&& 31)).toInt.toNat)).toUInt32 >>> (((24 : Int32) - ((8 : Int32) * ((w.1 99 13) &&& (3 : Int32)))).toUInt32 &&& Int32.toUInt32 31)).toInt32); have := ti_lo ((w.1 99 13) &&& (3 : Int32)); have := ti_hi ((w.1 99 13) &&& (3 : Int32)); have := nb_and (w.1 99 13) (3 : Int32) 3 rfl (by decide); have := ti_mul2 (by decide : ((8 : Int32)).toInt = 8) (Eq.refl ((w.1 99 13) &&& (3 : Int32)).toInt) (by omega) (by omega); have := ti_sub2 (by decide : ((24 : Int32)).toInt = 24) (Eq.refl ((8 : Int32) * ((w.1 99 13) &&& (3 : Int32))).toInt) (by omega) (by omega); have := nb_and (((w.1 2 (((w.1 99 13) >>> ((2 : Int32) &&& 31)).toInt.toNat)).toUInt32 >>> (((24 : Int32) - ((8 : Int32) * ((w.1 99 13) &&& (3 : Int32)))).toUInt32 &&& Int32.toUInt32 31)).toInt32) (255 : Int32) 255 rfl (by decide); have := (by decide : ((32 : Int32)).toInt = 32); have := (by decide : ((10 : Int32)).toInt = 10); have := (by decide : ((40 : Int32)).toInt = 40); have := (by decide : ((41 : Int32)).toInt = 41); have := (by decide : ((59 : Int32)).toInt = 59); omega
                    have hI1601 : BND (sI w 99 13 ((w.1 99 13) + (1 : Int32))) := wbd_99_13 hI o1602.1 o1602.2
                    exact ih (sI w 99 13 ((w.1 99 13) + (1 : Int32))) hI1601 hr_99_11  (by have := bd_99_13 hI; have := ti_add2 (Eq.refl (w.1 99 13).toInt) (by decide : ((1 : Int32)).toInt = 1) (by omega) (by omega); have : ((sI w 99 13 ((w.1 99 13) + (1 : Int32))).1 99 13).toInt = ((w.1 99 13) + (1 : Int32)).toInt := rfl; have := bd_1_2 hI; have := (by decide : ((0 : Int32)).toInt = 0); have := ti_mul2 (by decide : ((4 : Int32)).toInt = 4) (by decide : ((1005 : Int32)).toInt = 1005) (by omega) (by omega); have := ti_lo ((((w.1 2 (((w.1 99 13) >>> ((2 : Int32) &&& 31)).toInt.toNat)).toUInt32 >>> (((24 : Int32) - ((8 : Int32) * ((w.1 99 13) &&& (3 : Int32)))).toUInt32 &&& Int32.toUInt32 31)).toInt32) &&& (255 : Int32)); have := ti_hi ((((w.1 2 (((w.1 99 13) >>> ((2 : Int32) &&& 31)).toInt.toNat)).toUInt32 >>> (((24 : Int32) - ((8 : Int32) * ((w.1 99 13) &&& (3 : Int32)))).toUInt32 &&& Int32.toUInt32 31)).toInt32) &&& (255 : Int32)); have := ti_lo (((w.1 2 (((w.1 99 13) >>> ((2 : Int32) &&& 31)).toInt.toNat)).toUInt32 >>> (((24 : Int32) - ((8 : Int32) * ((w.1 99 13) &&& (3 : Int32)))).toUInt32 &&& Int32.toUInt32 31)).toInt32); have := ti_hi (((w.1 2 (((w.1 99 13) >>> ((2 : Int32) &&& 31)).toInt.toNat)).toUInt32 >>> (((24 : Int32) - ((8 : Int32) * ((w.1 99 13) &&& (3 : Int32)))).toUInt32 &&& Int32.toUInt32 31)).toInt32); have := ti_lo ((w.1 99 13) &&& (3 : Int32)); have := ti_hi ((w.1 99 13) &&& (3 : Int32)); have := nb_and (w.1 99 13) (3 : Int32) 3 rfl (by decide); have := ti_mul2 (by decide : ((8 : Int32)).toInt = 8) (Eq.refl ((w.1 99 13) &&& (3 : Int32)).toInt) (by omega) (by omega); have := ti_sub2 (by decide : ((24 : Int32)).toInt = 24) (Eq.refl ((8 : Int32) * ((w.1 99 13) &&& (3 : Int32))).toInt) (by omega) (by omega); have := nb_and (((w.1 2 (((w.1 99 13) >>> ((2 : Int32) &&& 31)).toInt.toNat)).toUInt32 >>> (((24 : Int32) - ((8 : Int32) * ((w.1 99 13) &&& (3 : Int32)))).toUInt32 &&& Int32.toUInt32 31)).toInt32) (255 : Int32) 255 rfl (by decide); have := (by decide : ((32 : Int32)).toInt = 32); have := (by decide : ((10 : Int32)).toInt = 10); have := (by decide : ((40 : Int32)).toInt = 40); have := (by decide : ((41 : Int32)).toInt = 41); have := (by decide : ((59 : Int32)).toInt = 59); omega) (fun w9 hI9 hF9 => hE w9 hI9 ((FR.I (FR.refl _ w) (k := 99) (j := 13) (v := ((w.1 99 13) + (1 : Int32))) rfl).tr hF9 rfl) ) (fun w9 hI9 hF9 q0 => q0.elim)
                  · refine ⟨fun _ => ?_, fun h => absurd (by decide) h⟩
                    exact hE _ hI (FR.refl _ w) 
            · refine ⟨fun _ => ?_, fun h => absurd (by decide) h⟩
              exact hE _ hI (FR.refl _ w) 
        · exfalso; have := bd_99_13 hI; have := bd_1_2 hI; have := (by decide : ((0 : Int32)).toInt = 0); have := ti_mul2 (by decide : ((4 : Int32)).toInt = 4) (by decide : ((1005 : Int32)).toInt = 1005) (by omega) (by omega); omega
set_option maxRecDepth 20000 in
set_option maxHeartbeats 2000000 in
theorem h_Ro_nextWords99 {w : MW} {Q : MW → Prop} (hI : BND w) (hr_99_11 : w.2.2 99 11 = some 1)  (hQ : ∀ (w' : MW), BND w' → FR l_Ro_nextWords99 w w' → Q w') : p_Ro_nextWords99 w Q := by
  refine Eq.mpr (p_Ro_nextWords99.eq_1 _ _) ?_
  have o1604 : 0 ≤ (w.1 99 13).toInt ∧ (w.1 99 13).toInt ≤ 4000 := by have := bd_99_13 hI; omega
  have hI1603 : BND (sI w 99 12 (w.1 99 13)) := wbd_99_12 hI o1604.1 o1604.2
  refine hq_Ro_nextWords99_8 FU (sI w 99 12 (w.1 99 13)) hI1603 hr_99_11  (fu_lt (by have := bd_99_13 hI; have : ((sI w 99 12 (w.1 99 13)).1 99 12).toInt = (w.1 99 13).toInt := rfl; omega)) (fun w1605 hI1606 hL1607  => ?_) (fun w9 hI9 hF9 q0 => q0.elim)
  have hF1608 : FR l_Ro_nextWords99 w w1605 := (FR.I (FR.refl _ w) (k := 99) (j := 12) (v := (w.1 99 13)) rfl).tr hL1607 rfl
  have o1610 : 0 ≤ (w1605.1 99 12).toInt ∧ (w1605.1 99 12).toInt ≤ 4000 := by have := bd_99_12 hI1606; omega
  have hI1609 : BND (sI w1605 99 13 (w1605.1 99 12)) := wbd_99_13 hI1606 o1610.1 o1610.2
  refine hq_Ro_nextWords99_60 FU (sI w1605 99 13 (w1605.1 99 12)) hI1609 ((hL1607 99 11 rfl).2.2.trans hr_99_11)  (fu_lt (by have := bd_99_12 hI1606; have : ((sI w1605 99 13 (w1605.1 99 12)).1 99 13).toInt = (w1605.1 99 12).toInt := rfl; omega)) (fun w1611 hI1612 hL1613  => ?_) (fun w9 hI9 hF9 q0 => q0.elim)
  have hF1614 : FR l_Ro_nextWords99 w w1611 := (FR.I hF1608 (k := 99) (j := 13) (v := (w1605.1 99 12)) rfl).tr hL1613 rfl
  refine ⟨fun h1615 => ?_, fun h1615 => ?_⟩
  · have hI1616 : BND (sI w1611 99 14 ((w1611.1 99 14) + (1 : Int32))) := wbd_99_14 hI1612
    exact hQ _ hI1616 (FR.I hF1614 (k := 99) (j := 14) (v := ((w1611.1 99 14) + (1 : Int32))) rfl) 
  · refine ⟨((hL1613 99 11 rfl).2.2.trans ((hL1607 99 11 rfl).2.2.trans hr_99_11)), ?_⟩
    refine ⟨fun h1617 => ?_, fun h1617 => ?_⟩
    · have hI1618 : BND (sI w1611 99 14 ((w1611.1 99 14) + (1 : Int32))) := wbd_99_14 hI1612
      exact hQ _ hI1618 (FR.I hF1614 (k := 99) (j := 14) (v := ((w1611.1 99 14) + (1 : Int32))) rfl) 
    · have o1620 : 0 ≤ ((w1611.1 99 13) + (1 : Int32)).toInt ∧ ((w1611.1 99 13) + (1 : Int32)).toInt ≤ 4000 := by have := bd_99_13 hI1612; have := ti_add2 (Eq.refl (w1611.1 99 13).toInt) (by decide : ((1 : Int32)).toInt = 1) (by omega) (by omega); have := bd_99_12 hI1612; have := bd_99_12 hI1606; have : ((sI w1605 99 13 (w1605.1 99 12)).1 99 12).toInt = (w1605.1 99 12).toInt := rfl; have := (congrArg Int32.toInt (hL1613 99 12 rfl).1); have := bd_1_2 hI1612; have := bd_1_2 hI1606; have := bd_1_2 hI; have : ((sI w 99 12 (w.1 99 13)).1 1 2).toInt = (w.1 1 2).toInt := rfl; have := (congrArg Int32.toInt (hL1607 1 2 rfl).1); have : ((sI w1605 99 13 (w1605.1 99 12)).1 1 2).toInt = (w1605.1 1 2).toInt := rfl; have := (congrArg Int32.toInt (hL1613 1 2 rfl).1); omega
      have hI1619 : BND (sI w1611 99 13 ((w1611.1 99 13) + (1 : Int32))) := wbd_99_13 hI1612 o1620.1 o1620.2
      have hI1621 : BND (sI (sI w1611 99 13 ((w1611.1 99 13) + (1 : Int32))) 99 14 ((w1611.1 99 14) + (1 : Int32))) := wbd_99_14 hI1619
      exact hQ _ hI1621 (FR.I (FR.I hF1614 (k := 99) (j := 13) (v := ((w1611.1 99 13) + (1 : Int32))) rfl) (k := 99) (j := 14) (v := ((w1611.1 99 14) + (1 : Int32))) rfl) 
def l_Ro_iss99_2013_27 : Pl := []
def l_Ro_iss99_2013 : Pl := []
set_option maxRecDepth 20000 in
set_option maxHeartbeats 2000000 in
theorem hq_Ro_iss99_2013_27 {E : MW → Prop} {Q : Int32 → MW → Prop} (n : Nat) : ∀ (x27_2 : Int32) (w : MW), BND w → w.2.2 99 11 = some 1 → 0 ≤ x27_2.toInt → x27_2.toInt ≤ 3 → (3 - x27_2.toInt).toNat < n → (∀ (w' : MW), BND w' → FR l_Ro_iss99_2013_27 w w' → E w') → (∀ (r : Int32) (w' : MW), BND w' → FR l_Ro_iss99_2013_27 w w' → 0 ≤ r.toInt → r.toInt ≤ 0 → Q r w') → q_Ro_iss99_2013_27 E Q n x27_2 w := by
  induction n with
  | zero => intros; omega
  | succ n ih =>
    intro x27_2 w hI hr_99_11 hp0 hp1 hm hE hQ
    rw [q_Ro_iss99_2013_27.eq_2]
    refine ⟨fun h1622 => ?_, fun h1622 => ?_⟩
    · exact hE _ hI (FR.refl _ w)
    · refine ⟨hr_99_11, ?_⟩
      refine Eq.mpr (p_Tp_at.eq_1 _ _ _) ?_
      refine ⟨fun h1623 => ?_, fun h1623 => ?_⟩
      · exfalso; have := (by decide : ((3 : Int32)).toInt = 3); have := bd_99_12 hI; have := ti_add2 (Eq.refl (w.1 99 12).toInt) (Eq.refl x27_2.toInt) (by omega) (by omega); have := (by decide : ((0 : Int32)).toInt = 0); omega
      · refine ⟨fun h1624 => ?_, fun h1624 => ?_⟩
        · have o1625 : 0 ≤ x27_2.toInt ∧ x27_2.toInt < 3 := by have := (by decide : ((3 : Int32)).toInt = 3); have := bd_99_12 hI; have := ti_add2 (Eq.refl (w.1 99 12).toInt) (Eq.refl x27_2.toInt) (by omega) (by omega); have := (by decide : ((0 : Int32)).toInt = 0); have := bd_1_2 hI; omega
          refine ⟨o1625, ?_⟩
          refine ⟨fun h1626 => ?_, fun h1626 => ?_⟩
          · replace h1626 : (-1) = (chT 13 x27_2).toInt := h1626
            exfalso; have := (by decide : ((3 : Int32)).toInt = 3); have := bd_99_12 hI; have := ti_add2 (Eq.refl (w.1 99 12).toInt) (Eq.refl x27_2.toInt) (by omega) (by omega); have := (by decide : ((0 : Int32)).toInt = 0); have := bd_1_2 hI; have := (by decide : (((-1) : Int32)).toInt = (-1)); have := nb_ch 13 x27_2; omega
          · replace h1626 : ¬ ((-1) = (chT 13 x27_2).toInt) := h1626
            have o1627 : (0 ≤ (0 : Int32).toInt) ∧ ((0 : Int32).toInt ≤ 0) := by have := (by decide : ((0 : Int32)).toInt = 0); exact ⟨by omega, by omega⟩
            exact hQ _ _ hI (FR.refl _ w)  o1627.1 o1627.2
        · refine ⟨fun h1628 => ?_, fun h1628 => ?_⟩
          · have o1629 : 0 ≤ (((w.1 99 12) + x27_2) >>> ((2 : Int32) &&& 31)).toInt ∧ (((w.1 99 12) + x27_2) >>> ((2 : Int32) &&& 31)).toInt < 1005 := by have := bd_99_12 hI; have := ti_add2 (Eq.refl (w.1 99 12).toInt) (Eq.refl x27_2.toInt) (by omega) (by omega); have := nb_shr ((w.1 99 12) + x27_2) ((2 : Int32) &&& 31) 2 4 rfl rfl; have := (by decide : ((3 : Int32)).toInt = 3); have := (by decide : ((0 : Int32)).toInt = 0); have := bd_1_2 hI; have := ti_mul2 (by decide : ((4 : Int32)).toInt = 4) (by decide : ((1005 : Int32)).toInt = 1005) (by omega) (by omega); omega
            refine ⟨o1629, ?_⟩
            have o1630 : 0 ≤ x27_2.toInt ∧ x27_2.toInt < 3 := by have := (by decide : ((3 : Int32)).toInt = 3); have := bd_99_12 hI; have := ti_add2 (Eq.refl (w.1 99 12).toInt) (Eq.refl x27_2.toInt) (by omega) (by omega); have := (by decide : ((0 : Int32)).toInt = 0); have := bd_1_2 hI; have := ti_mul2 (by decide : ((4 : Int32)).toInt = 4) (by decide : ((1005 : Int32)).toInt = 1005) (by omega) (by omega); omega
            refine ⟨o1630, ?_⟩
            refine ⟨fun h1631 => ?_, fun h1631 => ?_⟩
            · have o1632 : (0 ≤ (x27_2 + (1 : Int32)).toInt) ∧ ((x27_2 + (1 : Int32)).toInt ≤ 3) := by have := ti_add2 (Eq.refl x27_2.toInt) (by decide : ((1 : Int32)).toInt = 1) (by omega) (by omega); have := (by decide : ((3 : Int32)).toInt = 3); have := bd_99_12 hI; have := ti_add2 (Eq.refl (w.1 99 12).toInt) (Eq.refl x27_2.toInt) (by omega) (by omega); have := (by decide : ((0 : Int32)).toInt = 0); have := bd_1_2 hI; have := ti_mul2 (by decide : ((4 : Int32)).toInt = 4) (by decide : ((1005 : Int32)).toInt = 1005) (by omega) (by omega); have := ti_lo ((((w.1 2 ((((w.1 99 12) + x27_2) >>> ((2 : Int32) &&& 31)).toInt.toNat)).toUInt32 >>> (((24 : Int32) - ((8 : Int32) * (((w.1 99 12) + x27_2) &&& (3 : Int32)))).toUInt32 &&& Int32.toUInt32 31)).toInt32) &&& (255 : Int32)); have := ti_hi ((((w.1 2 ((((w.1 99 12) + x27_2) >>> ((2 : Int32) &&& 31)).toInt.toNat)).toUInt32 >>> (((24 : Int32) - ((8 : Int32) * (((w.1 99 12) + x27_2) &&& (3 : Int32)))).toUInt32 &&& Int32.toUInt32 31)).toInt32) &&& (255 : Int32)); have := ti_lo (((w.1 2 ((((w.1 99 12) + x27_2) >>> ((2 : Int32) &&& 31)).toInt.toNat)).toUInt32 >>> (((24 : Int32) - ((8 : Int32) * (((w.1 99 12) + x27_2) &&& (3 : Int32)))).toUInt32 &&& Int32.toUInt32 31)).toInt32); have := ti_hi (((w.1 2 ((((w.1 99 12) + x27_2) >>> ((2 : Int32) &&& 31)).toInt.toNat)).toUInt32 >>> (((24 : Int32) - ((8 : Int32) * (((w.1 99 12) + x27_2) &&& (3 : Int32)))).toUInt32 &&& Int32.toUInt32 31)).toInt32); have := ti_lo (((w.1 99 12) + x27_2) &&& (3 : Int32)); have := ti_hi (((w.1 99 12) + x27_2) &&& (3 : Int32)); have := nb_and ((w.1 99 12) + x27_2) (3 : Int32) 3 rfl (by decide); have := ti_mul2 (by decide : ((8 : Int32)).toInt = 8) (Eq.refl (((w.1 99 12) + x27_2) &&& (3 : Int32)).toInt) (by omega) (by omega); have := ti_sub2 (by decide : ((24 : Int32)).toInt = 24) (Eq.refl ((8 : Int32) * (((w.1 99 12) + x27_2) &&& (3 : Int32))).toInt) (by omega) (by omega); have := nb_and (((w.1 2 ((((w.1 99 12) + x27_2) >>> ((2 : Int32) &&& 31)).toInt.toNat)).toUInt32 >>> (((24 : Int32) - ((8 : Int32) * (((w.1 99 12) + x27_2) &&& (3 : Int32)))).toUInt32 &&& Int32.toUInt32 31)).toInt32) (255 : Int32) 255 rfl (by decide); have := nb_ch 13 x27_2; exact ⟨by omega, by omega⟩
              exact ih _ w hI hr_99_11 o1632.1 o1632.2 (by have := ti_add2 (Eq.refl x27_2.toInt) (by decide : ((1 : Int32)).toInt = 1) (by omega) (by omega); have := (by decide : ((3 : Int32)).toInt = 3); have := bd_99_12 hI; have := ti_add2 (Eq.refl (w.1 99 12).toInt) (Eq.refl x27_2.toInt) (by omega) (by omega); have := (by decide : ((0 : Int32)).toInt = 0); have := bd_1_2 hI; have := ti_mul2 (by decide : ((4 : Int32)).toInt = 4) (by decide : ((1005 : Int32)).toInt = 1005) (by omega) (by omega); have := ti_lo ((((w.1 2 ((((w.1 99 12) + x27_2) >>> ((2 : Int32) &&& 31)).toInt.toNat)).toUInt32 >>> (((24 : Int32) - ((8 : Int32) * (((w.1 99 12) + x27_2) &&& (3 : Int32)))).toUInt32 &&& Int32.toUInt32 31)).toInt32) &&& (255 : Int32)); have := ti_hi ((((w.1 2 ((((w.1 99 12) + x27_2) >>> ((2 : Int32) &&& 31)).toInt.toNat)).toUInt32 >>> (((24 : Int32) - ((8 : Int32) * (((w.1 99 12) + x27_2) &&& (3 : Int32)))).toUInt32 &&& Int32.toUInt32 31)).toInt32) &&& (255 : Int32)); have := ti_lo (((w.1 2 ((((w.1 99 12) + x27_2) >>> ((2 : Int32) &&& 31)).toInt.toNat)).toUInt32 >>> (((24 : Int32) - ((8 : Int32) * (((w.1 99 12) + x27_2) &&& (3 : Int32)))).toUInt32 &&& Int32.toUInt32 31)).toInt32); have := ti_hi (((w.1 2 ((((w.1 99 12) + x27_2) >>> ((2 : Int32) &&& 31)).toInt.toNat)).toUInt32 >>> (((24 : Int32) - ((8 : Int32) * (((w.1 99 12) + x27_2) &&& (3 : Int32)))).toUInt32 &&& Int32.toUInt32 31)).toInt32); have := ti_lo (((w.1 99 12) + x27_2) &&& (3 : Int32)); have := ti_hi (((w.1 99 12) + x27_2) &&& (3 : Int32)); have := nb_and ((w.1 99 12) + x27_2) (3 : Int32) 3 rfl (by decide); have := ti_mul2 (by decide : ((8 : Int32)).toInt = 8) (Eq.refl (((w.1 99 12) + x27_2) &&& (3 : Int32)).toInt) (by omega) (by omega); have := ti_sub2 (by decide : ((24 : Int32)).toInt = 24) (Eq.refl ((8 : Int32) * (((w.1 99 12) + x27_2) &&& (3 : Int32))).toInt) (by omega) (by omega); have := nb_and (((w.1 2 ((((w.1 99 12) + x27_2) >>> ((2 : Int32) &&& 31)).toInt.toNat)).toUInt32 >>> (((24 : Int32) - ((8 : Int32) * (((w.1 99 12) + x27_2) &&& (3 : Int32)))).toUInt32 &&& Int32.toUInt32 31)).toInt32) (255 : Int32) 255 rfl (by decide); have := nb_ch 13 x27_2; omega) (fun w9 hI9 hF9 => hE w9 hI9 ((FR.refl _ w).tr hF9 rfl) ) (fun r w9 hI9 hF9 q0 q1 => hQ r w9 hI9 ((FR.refl _ w).tr hF9 rfl) (by have := ti_add2 (Eq.refl x27_2.toInt) (by decide : ((1 : Int32)).toInt = 1) (by omega) (by omega); have := (by decide : ((3 : Int32)).toInt = 3); have := bd_99_12 hI; have := ti_add2 (Eq.refl (w.1 99 12).toInt) (Eq.refl x27_2.toInt) (by omega) (by omega); have := (by decide : ((0 : Int32)).toInt = 0); have := bd_1_2 hI; have := ti_mul2 (by decide : ((4 : Int32)).toInt = 4) (by decide : ((1005 : Int32)).toInt = 1005) (by omega) (by omega); have := ti_lo ((((w.1 2 ((((w.1 99 12) + x27_2) >>> ((2 : Int32) &&& 31)).toInt.toNat)).toUInt32 >>> (((24 : Int32) - ((8 : Int32) * (((w.1 99 12) + x27_2) &&& (3 : Int32)))).toUInt32 &&& Int32.toUInt32 31)).toInt32) &&& (255 : Int32)); have := ti_hi ((((w.1 2 ((((w.1 99 12) + x27_2) >>> ((2 : Int32) &&& 31)).toInt.toNat)).toUInt32 >>> (((24 : Int32) - ((8 : Int32) * (((w.1 99 12) + x27_2) &&& (3 : Int32)))).toUInt32 &&& Int32.toUInt32 31)).toInt32) &&& (255 : Int32)); have := ti_lo (((w.1 2 ((((w.1 99 12) + x27_2) >>> ((2 : Int32) &&& 31)).toInt.toNat)).toUInt32 >>> (((24 : Int32) - ((8 : Int32) * (((w.1 99 12) + x27_2) &&& (3 : Int32)))).toUInt32 &&& Int32.toUInt32 31)).toInt32); have := ti_hi (((w.1 2 ((((w.1 99 12) + x27_2) >>> ((2 : Int32) &&& 31)).toInt.toNat)).toUInt32 >>> (((24 : Int32) - ((8 : Int32) * (((w.1 99 12) + x27_2) &&& (3 : Int32)))).toUInt32 &&& Int32.toUInt32 31)).toInt32); have := ti_lo (((w.1 99 12) + x27_2) &&& (3 : Int32)); have := ti_hi (((w.1 99 12) + x27_2) &&& (3 : Int32)); have := nb_and ((w.1 99 12) + x27_2) (3 : Int32) 3 rfl (by decide); have := ti_mul2 (by decide : ((8 : Int32)).toInt = 8) (Eq.refl (((w.1 99 12) + x27_2) &&& (3 : Int32)).toInt) (by omega) (by omega); have := ti_sub2 (by decide : ((24 : Int32)).toInt = 24) (Eq.refl ((8 : Int32) * (((w.1 99 12) + x27_2) &&& (3 : Int32))).toInt) (by omega) (by omega); have := nb_and (((w.1 2 ((((w.1 99 12) + x27_2) >>> ((2 : Int32) &&& 31)).toInt.toNat)).toUInt32 >>> (((24 : Int32) - ((8 : Int32) * (((w.1 99 12) + x27_2) &&& (3 : Int32)))).toUInt32 &&& Int32.toUInt32 31)).toInt32) (255 : Int32) 255 rfl (by decide); have := nb_ch 13 x27_2; omega) (by have := ti_add2 (Eq.refl x27_2.toInt) (by decide : ((1 : Int32)).toInt = 1) (by omega) (by omega); have := (by decide : ((3 : Int32)).toInt = 3); have := bd_99_12 hI; have := ti_add2 (Eq.refl (w.1 99 12).toInt) (Eq.refl x27_2.toInt) (by omega) (by omega); have := (by decide : ((0 : Int32)).toInt = 0); have := bd_1_2 hI; have := ti_mul2 (by decide : ((4 : Int32)).toInt = 4) (by decide : ((1005 : Int32)).toInt = 1005) (by omega) (by omega); have := ti_lo ((((w.1 2 ((((w.1 99 12) + x27_2) >>> ((2 : Int32) &&& 31)).toInt.toNat)).toUInt32 >>> (((24 : Int32) - ((8 : Int32) * (((w.1 99 12) + x27_2) &&& (3 : Int32)))).toUInt32 &&& Int32.toUInt32 31)).toInt32) &&& (255 : Int32)); have := ti_hi ((((w.1 2 ((((w.1 99 12) + x27_2) >>> ((2 : Int32) &&& 31)).toInt.toNat)).toUInt32 >>> (((24 : Int32) - ((8 : Int32) * (((w.1 99 12) + x27_2) &&& (3 : Int32)))).toUInt32 &&& Int32.toUInt32 31)).toInt32) &&& (255 : Int32)); have := ti_lo (((w.1 2 ((((w.1 99 12) + x27_2) >>> ((2 : Int32) &&& 31)).toInt.toNat)).toUInt32 >>> (((24 : Int32) - ((8 : Int32) * (((w.1 99 12) + x27_2) &&& (3 : Int32)))).toUInt32 &&& Int32.toUInt32 31)).toInt32); have := ti_hi (((w.1 2 ((((w.1 99 12) + x27_2) >>> ((2 : Int32) &&& 31)).toInt.toNat)).toUInt32 >>> (((24 : Int32) - ((8 : Int32) * (((w.1 99 12) + x27_2) &&& (3 : Int32)))).toUInt32 &&& Int32.toUInt32 31)).toInt32); have := ti_lo (((w.1 99 12) + x27_2) &&& (3 : Int32)); have := ti_hi (((w.1 99 12) + x27_2) &&& (3 : Int32)); have := nb_and ((w.1 99 12) + x27_2) (3 : Int32) 3 rfl (by decide); have := ti_mul2 (by decide : ((8 : Int32)).toInt = 8) (Eq.refl (((w.1 99 12) + x27_2) &&& (3 : Int32)).toInt) (by omega) (by omega); have := ti_sub2 (by decide : ((24 : Int32)).toInt = 24) (Eq.refl ((8 : Int32) * (((w.1 99 12) + x27_2) &&& (3 : Int32))).toInt) (by omega) (by omega); have := nb_and (((w.1 2 ((((w.1 99 12) + x27_2) >>> ((2 : Int32) &&& 31)).toInt.toNat)).toUInt32 >>> (((24 : Int32) - ((8 : Int32) * (((w.1 99 12) + x27_2) &&& (3 : Int32)))).toUInt32 &&& Int32.toUInt32 31)).toInt32) (255 : Int32) 255 rfl (by decide); have := nb_ch 13 x27_2; omega))
            · have o1633 : (0 ≤ (0 : Int32).toInt) ∧ ((0 : Int32).toInt ≤ 0) := by have := (by decide : ((0 : Int32)).toInt = 0); exact ⟨by omega, by omega⟩
              exact hQ _ _ hI (FR.refl _ w)  o1633.1 o1633.2
          · exfalso; have := (by decide : ((3 : Int32)).toInt = 3); have := bd_99_12 hI; have := ti_add2 (Eq.refl (w.1 99 12).toInt) (Eq.refl x27_2.toInt) (by omega) (by omega); have := (by decide : ((0 : Int32)).toInt = 0); have := bd_1_2 hI; have := ti_mul2 (by decide : ((4 : Int32)).toInt = 4) (by decide : ((1005 : Int32)).toInt = 1005) (by omega) (by omega); omega
set_option maxRecDepth 20000 in
set_option maxHeartbeats 2000000 in
theorem h_Ro_iss99_2013 {w : MW} {Q : Int32 → MW → Prop} (hI : BND w) (hr_99_11 : w.2.2 99 11 = some 1)  (hQ : ∀ (r : Int32) (w' : MW), BND w' → FR l_Ro_iss99_2013 w w' → 0 ≤ r.toInt → r.toInt ≤ 1 → Q r w') : p_Ro_iss99_2013 w Q := by
  refine Eq.mpr (p_Ro_iss99_2013.eq_1 _ _) ?_
  refine ⟨fun h1634 => ?_, fun h1634 => ?_⟩
  · have o1635 : (0 ≤ (0 : Int32).toInt) ∧ ((0 : Int32).toInt ≤ 1) := by have := (by decide : ((0 : Int32)).toInt = 0); exact ⟨by omega, by omega⟩
    exact hQ _ _ hI (FR.refl _ w)  o1635.1 o1635.2
  · refine ⟨fun h1636 => ?_, fun h1636 => ?_⟩
    · have o1637 : (0 ≤ (0 : Int32).toInt) ∧ ((0 : Int32).toInt ≤ 3) := by have := (by decide : ((0 : Int32)).toInt = 0); exact ⟨by omega, by omega⟩
      refine hq_Ro_iss99_2013_27 FU _ w hI hr_99_11 o1637.1 o1637.2 (fu_lt (by have := (by decide : ((0 : Int32)).toInt = 0); omega)) (fun w1638 hI1639 hL1640  => ?_) (fun r w9 hI9 hF9 q0 q1 => hQ r w9 hI9 (((FR.refl _ w)).tr hF9 rfl) (by have := (by decide : ((0 : Int32)).toInt = 0); omega) (by have := (by decide : ((0 : Int32)).toInt = 0); omega))
      have hF1641 : FR l_Ro_iss99_2013 w w1638 := (FR.refl _ w).tr hL1640 rfl
      have o1642 : (0 ≤ (1 : Int32).toInt) ∧ ((1 : Int32).toInt ≤ 1) := by have := (by decide : ((1 : Int32)).toInt = 1); exact ⟨by omega, by omega⟩
      exact hQ _ _ hI1639 hF1641  o1642.1 o1642.2
    · have o1643 : (0 ≤ (0 : Int32).toInt) ∧ ((0 : Int32).toInt ≤ 1) := by have := (by decide : ((0 : Int32)).toInt = 0); exact ⟨by omega, by omega⟩
      exact hQ _ _ hI (FR.refl _ w)  o1643.1 o1643.2
