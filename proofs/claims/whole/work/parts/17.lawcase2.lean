set_option maxRecDepth 100000 in
set_option maxHeartbeats 4000000 in
theorem case_items {p : Program} {l : Launch} {e : Env} {s : State} {m : MethodId} {below : List Frame} {meth : Method} {c : Code} {D : va_G} {G : sx_G} {A : Nat → Prop} {b1 b2 bo bs L cl sl : Nat} {xs : Nat → Int32} {Q : State → Prop} {f g : sx_F} {o : Nat → Int64} {i : Int32} {K : sx_F → sx_F → Prop} (hf : l.stackTraces = false) (C : sx_Cx p l s m #[.ref bs] meth c D G A cL_law 7 RL) (hNC : sx_NC s) (hB1 : ∀ k, k < 129 → A (b1 + k)) (hB2 : ∀ k, k < 26 → A (b2 + k)) (hA : A bo) (hd12 : b1 + 129 ≤ b2) (hd2 : b2 + 26 ≤ bo) (hX : va_X bs L xs s s.heap) (hbl : bs < s.heap.size) (hbA : ¬ A bs) (hcl : cl + 9 ≤ 601024 ∧ sl + 54 ≤ 7293034) (hv1 : vp_in (i + 1) L) (hend : ∀ (f1 g1 : sx_F) (o1 : Nat → Int64), K f1 g1 → sx_J (sx_wl D G b1 129 lyX b2 26 lyM bo) p l e room_1 s m #[.ref bs] below meth c A 7 (cl + 9) (sl + 54) Q (f1, g1, o1) 2395 [(0, .ref bs), (1, .ref (b1 + 0)), (2, .ref (b2 + 0)), (3, .ref bo), (4, .int i)] []) (h : P_case_items f g o (xs (i + 1).toNatClampNeg) K) : sx_J (sx_wl D G b1 129 lyX b2 26 lyM bo) p l e room_1 s m #[.ref bs] below meth c A 7 (cl) (sl) Q (f, g, o) 1365 [(0, .ref bs), (1, .ref (b1 + 0)), (2, .ref (b2 + 0)), (3, .ref bo), (4, .int i)] [] := by
  unfold P_case_items at h
  refine sx_aload_n C dL_law_1365 1 1 rfl rfl 1366 rfl ?_
  refine sx_aload_n C dL_law_1366 0 0 rfl rfl 1367 rfl ?_
  refine sx_iload C dL_law_1367 4 rfl 1369 rfl ?_
  refine sx_iconst C dL_law_1369 1 (by decide) 1370 rfl ?_
  refine sx_iadd C dL_law_1370 1371 rfl ?_
  refine sx_sld C hX hbl hbA hv1 dL_law_1371 1372 rfl ?_
  refine sx_aload_n C dL_law_1372 3 3 rfl rfl 1373 rfl ?_
  refine sx_lcallW C hNC hB1 hA hd12 hd2 (st := []) dL_law_1373 (c_L_items hf (by omega) h) wi_L_items wn_L_items wt_L_items lk_L_188 ⟨by decide, by decide, (show _ = some 3 from by decide +kernel)⟩ rfl rfl ⟨⟨(Nat.le_of_ble_eq_true rfl), (Nat.le_of_ble_eq_true rfl)⟩, (by show cl + 1 ≤ 601024; omega), (by show sl + 6 ≤ 7293034; omega)⟩ (Nat.le_of_ble_eq_true rfl) 1376 rfl (fun k f1 o1 h => ?_)
  refine sx_istore C dL_law_1376 [(5, .int k), (0, .ref bs), (1, .ref (b1 + 0)), (2, .ref (b2 + 0)), (3, .ref bo), (4, .int i)] (by decide) rfl 1378 rfl ?_
  refine sx_aload_n C dL_law_1378 2 3 rfl rfl 1379 rfl ?_
  refine sx_aload_n C dL_law_1379 0 1 rfl rfl 1380 rfl ?_
  refine sx_iload C dL_law_1380 5 rfl 1382 rfl ?_
  refine sx_iconst C dL_law_1382 1 (by decide) 1383 rfl ?_
  refine sx_iadd C dL_law_1383 1384 rfl ?_
  refine sx_sld C hX hbl hbA hv1 dL_law_1384 1385 rfl ?_
  refine sx_lcall2 C hB2 hd12 hd2 (st := []) dL_law_1385 (c_X7_items hf h) mi_X7_items lk_L_190 mn_X7_items ms_X7_items (by decide) lyM_0 rfl rfl rfl rfl ⟨⟨(Nat.le_of_ble_eq_true rfl), (Nat.le_of_ble_eq_true rfl)⟩, (by show cl + 1 + 0 ≤ 601024; omega), (by show sl + 6 + 0 ≤ 7293034; omega)⟩ (Nat.le_of_ble_eq_true rfl) 1388 rfl (fun v g1 h => ?_)
  obtain ⟨r, rfl, h⟩ := h
  refine sx_istore C dL_law_1388 [(6, .int r), (5, .int k), (0, .ref bs), (1, .ref (b1 + 0)), (2, .ref (b2 + 0)), (3, .ref bo), (4, .int i)] (by decide) rfl 1390 rfl ?_
  refine sx_aload_n C dL_law_1390 2 4 rfl rfl 1391 rfl ?_
  refine sx_lcall2 C hB2 hd12 hd2 (st := []) dL_law_1391 (c_X7_thrown hf h) mi_X7_thrown lk_L_129 mn_X7_thrown ms_X7_thrown (by decide) lyM_0 rfl rfl rfl rfl ⟨⟨(Nat.le_of_ble_eq_true rfl), (Nat.le_of_ble_eq_true rfl)⟩, (by show cl + 1 + 0 ≤ 601024; omega), (by show sl + 6 + 0 ≤ 7293034; omega)⟩ (Nat.le_of_ble_eq_true rfl) 1394 rfl (fun v g2 h => ?_)
  obtain ⟨⟨t, rfl, h⟩, rfl⟩ := h
  refine sx_iload C dL_law_1394 1 rfl 1396 rfl ?_
  refine sx_icmp_eq C dL_law_1396 1401 1399 (by decide) rfl (fun c1 => ?_) (fun c1 => absurd h.1 c1)
  refine sx_iload C dL_law_1401 1 rfl 1403 rfl ?_
  refine sx_if_ne C dL_law_1403 1418 1406 (by decide) rfl (fun c2 => ?_) (fun c2 => ?_)
  · refine sx_goto C dL_law_1418 2395 (by decide) ?_
    refine sx_widen (k := cl + 9) (n := sl + 54) (by omega) (by omega) ?_
    exact sx_sub [2, 3, 4, 5, 6] rfl (hend _ _ _ h.2.2)
  · refine sx_aload_n C dL_law_1406 3 5 rfl rfl 1407 rfl ?_
    refine sx_iconst C dL_law_1407 0 (by decide) 1408 rfl ?_
    refine sx_lald C dL_law_1408 1409 rfl ?_
    refine sx_iload C dL_law_1409 0 rfl 1411 rfl ?_
    refine sx_i2l C dL_law_1411 1412 rfl ?_
    refine sx_lcmp C dL_law_1412 1413 rfl ?_
    refine sx_if_eq C dL_law_1413 1418 1416 (by decide) rfl (fun c3 => ?_) (fun c3 => absurd ((lg_cmp_eq _ _).mpr (h.2.1 c2)) c3)
    refine sx_goto C dL_law_1418 2395 (by decide) ?_
    refine sx_widen (k := cl + 9) (n := sl + 54) (by omega) (by omega) ?_
    exact sx_sub [2, 3, 4, 5, 6] rfl (hend _ _ _ h.2.2)
set_option maxRecDepth 100000 in
set_option maxHeartbeats 4000000 in
theorem case_itemOf {p : Program} {l : Launch} {e : Env} {s : State} {m : MethodId} {below : List Frame} {meth : Method} {c : Code} {D : va_G} {G : sx_G} {A : Nat → Prop} {b1 b2 bo bs L cl sl : Nat} {xs : Nat → Int32} {Q : State → Prop} {f g : sx_F} {o : Nat → Int64} {i : Int32} {K : sx_F → sx_F → Prop} (hf : l.stackTraces = false) (C : sx_Cx p l s m #[.ref bs] meth c D G A cL_law 7 RL) (hNC : sx_NC s) (hB1 : ∀ k, k < 129 → A (b1 + k)) (hB2 : ∀ k, k < 26 → A (b2 + k)) (hA : A bo) (hd12 : b1 + 129 ≤ b2) (hd2 : b2 + 26 ≤ bo) (hX : va_X bs L xs s s.heap) (hbl : bs < s.heap.size) (hbA : ¬ A bs) (hcl : cl + 9 ≤ 601024 ∧ sl + 54 ≤ 7293034) (hv1 : vp_in (i + 1) L) (hv2 : vp_in (i + 2) L) (hend : ∀ (f1 g1 : sx_F) (o1 : Nat → Int64), K f1 g1 → sx_J (sx_wl D G b1 129 lyX b2 26 lyM bo) p l e room_1 s m #[.ref bs] below meth c A 7 (cl + 9) (sl + 54) Q (f1, g1, o1) 2395 [(0, .ref bs), (1, .ref (b1 + 0)), (2, .ref (b2 + 0)), (3, .ref bo), (4, .int i)] []) (h : P_case_itemOf f g o (xs (i + 1).toNatClampNeg) (xs (i + 2).toNatClampNeg) K) : sx_J (sx_wl D G b1 129 lyX b2 26 lyM bo) p l e room_1 s m #[.ref bs] below meth c A 7 (cl) (sl) Q (f, g, o) 1421 [(0, .ref bs), (1, .ref (b1 + 0)), (2, .ref (b2 + 0)), (3, .ref bo), (4, .int i)] [] := by
  unfold P_case_itemOf at h
  refine sx_aload_n C dL_law_1421 1 1 rfl rfl 1422 rfl ?_
  refine sx_aload_n C dL_law_1422 0 0 rfl rfl 1423 rfl ?_
  refine sx_iload C dL_law_1423 4 rfl 1425 rfl ?_
  refine sx_iconst C dL_law_1425 1 (by decide) 1426 rfl ?_
  refine sx_iadd C dL_law_1426 1427 rfl ?_
  refine sx_sld C hX hbl hbA hv1 dL_law_1427 1428 rfl ?_
  refine sx_aload_n C dL_law_1428 0 0 rfl rfl 1429 rfl ?_
  refine sx_iload C dL_law_1429 4 rfl 1431 rfl ?_
  refine sx_iconst C dL_law_1431 2 (by decide) 1432 rfl ?_
  refine sx_iadd C dL_law_1432 1433 rfl ?_
  refine sx_sld C hX hbl hbA hv2 dL_law_1433 1434 rfl ?_
  refine sx_aload_n C dL_law_1434 3 3 rfl rfl 1435 rfl ?_
  refine sx_lcallW C hNC hB1 hA hd12 hd2 (st := []) dL_law_1435 (c_L_itemOf hf (by omega) h) wi_L_itemOf wn_L_itemOf wt_L_itemOf lk_L_191 ⟨by decide, by decide, (show _ = some 4 from by decide +kernel)⟩ rfl rfl ⟨⟨(Nat.le_of_ble_eq_true rfl), (Nat.le_of_ble_eq_true rfl)⟩, (by show cl + 2 ≤ 601024; omega), (by show sl + 12 ≤ 7293034; omega)⟩ (Nat.le_of_ble_eq_true rfl) 1438 rfl (fun k f1 o1 h => ?_)
  refine sx_istore C dL_law_1438 [(5, .int k), (0, .ref bs), (1, .ref (b1 + 0)), (2, .ref (b2 + 0)), (3, .ref bo), (4, .int i)] (by decide) rfl 1440 rfl ?_
  refine sx_aload_n C dL_law_1440 2 3 rfl rfl 1441 rfl ?_
  refine sx_aload_n C dL_law_1441 0 1 rfl rfl 1442 rfl ?_
  refine sx_iload C dL_law_1442 5 rfl 1444 rfl ?_
  refine sx_iconst C dL_law_1444 1 (by decide) 1445 rfl ?_
  refine sx_iadd C dL_law_1445 1446 rfl ?_
  refine sx_sld C hX hbl hbA hv1 dL_law_1446 1447 rfl ?_
  refine sx_aload_n C dL_law_1447 0 1 rfl rfl 1448 rfl ?_
  refine sx_iload C dL_law_1448 5 rfl 1450 rfl ?_
  refine sx_iconst C dL_law_1450 2 (by decide) 1451 rfl ?_
  refine sx_iadd C dL_law_1451 1452 rfl ?_
  refine sx_sld C hX hbl hbA hv2 dL_law_1452 1453 rfl ?_
  refine sx_lcall2 C hB2 hd12 hd2 (st := []) dL_law_1453 (c_X7_itemOf hf h) mi_X7_itemOf lk_L_193 mn_X7_itemOf ms_X7_itemOf (by decide) lyM_0 rfl rfl rfl rfl ⟨⟨(Nat.le_of_ble_eq_true rfl), (Nat.le_of_ble_eq_true rfl)⟩, (by show cl + 2 + 0 ≤ 601024; omega), (by show sl + 12 + 0 ≤ 7293034; omega)⟩ (Nat.le_of_ble_eq_true rfl) 1456 rfl (fun v g1 h => ?_)
  obtain ⟨r, rfl, h⟩ := h
  refine sx_istore C dL_law_1456 [(6, .int r), (5, .int k), (0, .ref bs), (1, .ref (b1 + 0)), (2, .ref (b2 + 0)), (3, .ref bo), (4, .int i)] (by decide) rfl 1458 rfl ?_
  refine sx_aload_n C dL_law_1458 2 4 rfl rfl 1459 rfl ?_
  refine sx_lcall2 C hB2 hd12 hd2 (st := []) dL_law_1459 (c_X7_thrown hf h) mi_X7_thrown lk_L_129 mn_X7_thrown ms_X7_thrown (by decide) lyM_0 rfl rfl rfl rfl ⟨⟨(Nat.le_of_ble_eq_true rfl), (Nat.le_of_ble_eq_true rfl)⟩, (by show cl + 2 + 0 ≤ 601024; omega), (by show sl + 12 + 0 ≤ 7293034; omega)⟩ (Nat.le_of_ble_eq_true rfl) 1462 rfl (fun v g2 h => ?_)
  obtain ⟨⟨t, rfl, h⟩, rfl⟩ := h
  refine sx_iload C dL_law_1462 1 rfl 1464 rfl ?_
  refine sx_icmp_eq C dL_law_1464 1469 1467 (by decide) rfl (fun c1 => ?_) (fun c1 => absurd h.1 c1)
  refine sx_iload C dL_law_1469 1 rfl 1471 rfl ?_
  refine sx_if_ne C dL_law_1471 1486 1474 (by decide) rfl (fun c2 => ?_) (fun c2 => ?_)
  · refine sx_goto C dL_law_1486 2395 (by decide) ?_
    refine sx_widen (k := cl + 9) (n := sl + 54) (by omega) (by omega) ?_
    exact sx_sub [2, 3, 4, 5, 6] rfl (hend _ _ _ h.2.2)
  · refine sx_aload_n C dL_law_1474 3 5 rfl rfl 1475 rfl ?_
    refine sx_iconst C dL_law_1475 0 (by decide) 1476 rfl ?_
    refine sx_lald C dL_law_1476 1477 rfl ?_
    refine sx_iload C dL_law_1477 0 rfl 1479 rfl ?_
    refine sx_i2l C dL_law_1479 1480 rfl ?_
    refine sx_lcmp C dL_law_1480 1481 rfl ?_
    refine sx_if_eq C dL_law_1481 1486 1484 (by decide) rfl (fun c3 => ?_) (fun c3 => absurd ((lg_cmp_eq _ _).mpr (h.2.1 c2)) c3)
    refine sx_goto C dL_law_1486 2395 (by decide) ?_
    refine sx_widen (k := cl + 9) (n := sl + 54) (by omega) (by omega) ?_
    exact sx_sub [2, 3, 4, 5, 6] rfl (hend _ _ _ h.2.2)
set_option maxRecDepth 100000 in
set_option maxHeartbeats 4000000 in
theorem case_cue {p : Program} {l : Launch} {e : Env} {s : State} {m : MethodId} {below : List Frame} {meth : Method} {c : Code} {D : va_G} {G : sx_G} {A : Nat → Prop} {b1 b2 bo bs L cl sl : Nat} {xs : Nat → Int32} {Q : State → Prop} {f g : sx_F} {o : Nat → Int64} {i : Int32} {K : sx_F → sx_F → Prop} (hf : l.stackTraces = false) (C : sx_Cx p l s m #[.ref bs] meth c D G A cL_law 7 RL) (hNC : sx_NC s) (hB1 : ∀ k, k < 129 → A (b1 + k)) (hB2 : ∀ k, k < 26 → A (b2 + k)) (hA : A bo) (hd12 : b1 + 129 ≤ b2) (hd2 : b2 + 26 ≤ bo) (hX : va_X bs L xs s s.heap) (hbl : bs < s.heap.size) (hbA : ¬ A bs) (hcl : cl + 9 ≤ 601024 ∧ sl + 54 ≤ 7293034) (hv1 : vp_in (i + 1) L) (hv2 : vp_in (i + 2) L) (hend : ∀ (f1 g1 : sx_F) (o1 : Nat → Int64), K f1 g1 → sx_J (sx_wl D G b1 129 lyX b2 26 lyM bo) p l e room_1 s m #[.ref bs] below meth c A 7 (cl + 9) (sl + 54) Q (f1, g1, o1) 2395 [(0, .ref bs), (1, .ref (b1 + 0)), (2, .ref (b2 + 0)), (3, .ref bo), (4, .int i)] []) (h : P_case_cue f g o (xs (i + 1).toNatClampNeg) (xs (i + 2).toNatClampNeg) K) : sx_J (sx_wl D G b1 129 lyX b2 26 lyM bo) p l e room_1 s m #[.ref bs] below meth c A 7 (cl) (sl) Q (f, g, o) 1489 [(0, .ref bs), (1, .ref (b1 + 0)), (2, .ref (b2 + 0)), (3, .ref bo), (4, .int i)] [] := by
  unfold P_case_cue at h
  refine sx_aload_n C dL_law_1489 1 1 rfl rfl 1490 rfl ?_
  refine sx_aload_n C dL_law_1490 0 0 rfl rfl 1491 rfl ?_
  refine sx_iload C dL_law_1491 4 rfl 1493 rfl ?_
  refine sx_iconst C dL_law_1493 1 (by decide) 1494 rfl ?_
  refine sx_iadd C dL_law_1494 1495 rfl ?_
  refine sx_sld C hX hbl hbA hv1 dL_law_1495 1496 rfl ?_
  refine sx_aload_n C dL_law_1496 0 0 rfl rfl 1497 rfl ?_
  refine sx_iload C dL_law_1497 4 rfl 1499 rfl ?_
  refine sx_iconst C dL_law_1499 2 (by decide) 1500 rfl ?_
  refine sx_iadd C dL_law_1500 1501 rfl ?_
  refine sx_sld C hX hbl hbA hv2 dL_law_1501 1502 rfl ?_
  refine sx_aload_n C dL_law_1502 3 3 rfl rfl 1503 rfl ?_
  refine sx_lcallW C hNC hB1 hA hd12 hd2 (st := []) dL_law_1503 (c_L_cue hf (by omega) h) wi_L_cue wn_L_cue wt_L_cue lk_L_194 ⟨by decide, by decide, (show _ = some 4 from by decide +kernel)⟩ rfl rfl ⟨⟨(Nat.le_of_ble_eq_true rfl), (Nat.le_of_ble_eq_true rfl)⟩, (by show cl + 2 ≤ 601024; omega), (by show sl + 12 ≤ 7293034; omega)⟩ (Nat.le_of_ble_eq_true rfl) 1506 rfl (fun k f1 o1 h => ?_)
  refine sx_istore C dL_law_1506 [(5, .int k), (0, .ref bs), (1, .ref (b1 + 0)), (2, .ref (b2 + 0)), (3, .ref bo), (4, .int i)] (by decide) rfl 1508 rfl ?_
  refine sx_aload_n C dL_law_1508 2 3 rfl rfl 1509 rfl ?_
  refine sx_aload_n C dL_law_1509 0 1 rfl rfl 1510 rfl ?_
  refine sx_iload C dL_law_1510 5 rfl 1512 rfl ?_
  refine sx_iconst C dL_law_1512 1 (by decide) 1513 rfl ?_
  refine sx_iadd C dL_law_1513 1514 rfl ?_
  refine sx_sld C hX hbl hbA hv1 dL_law_1514 1515 rfl ?_
  refine sx_aload_n C dL_law_1515 0 1 rfl rfl 1516 rfl ?_
  refine sx_iload C dL_law_1516 5 rfl 1518 rfl ?_
  refine sx_iconst C dL_law_1518 2 (by decide) 1519 rfl ?_
  refine sx_iadd C dL_law_1519 1520 rfl ?_
  refine sx_sld C hX hbl hbA hv2 dL_law_1520 1521 rfl ?_
  refine sx_lcall2 C hB2 hd12 hd2 (st := []) dL_law_1521 (c_X7_cue hf h) mi_X7_cue lk_L_196 mn_X7_cue ms_X7_cue (by decide) lyM_0 rfl rfl rfl rfl ⟨⟨(Nat.le_of_ble_eq_true rfl), (Nat.le_of_ble_eq_true rfl)⟩, (by show cl + 2 + 0 ≤ 601024; omega), (by show sl + 12 + 0 ≤ 7293034; omega)⟩ (Nat.le_of_ble_eq_true rfl) 1524 rfl (fun v g1 h => ?_)
  obtain ⟨r, rfl, h⟩ := h
  refine sx_istore C dL_law_1524 [(6, .int r), (5, .int k), (0, .ref bs), (1, .ref (b1 + 0)), (2, .ref (b2 + 0)), (3, .ref bo), (4, .int i)] (by decide) rfl 1526 rfl ?_
  refine sx_aload_n C dL_law_1526 2 4 rfl rfl 1527 rfl ?_
  refine sx_lcall2 C hB2 hd12 hd2 (st := []) dL_law_1527 (c_X7_thrown hf h) mi_X7_thrown lk_L_129 mn_X7_thrown ms_X7_thrown (by decide) lyM_0 rfl rfl rfl rfl ⟨⟨(Nat.le_of_ble_eq_true rfl), (Nat.le_of_ble_eq_true rfl)⟩, (by show cl + 2 + 0 ≤ 601024; omega), (by show sl + 12 + 0 ≤ 7293034; omega)⟩ (Nat.le_of_ble_eq_true rfl) 1530 rfl (fun v g2 h => ?_)
  obtain ⟨⟨t, rfl, h⟩, rfl⟩ := h
  refine sx_iload C dL_law_1530 1 rfl 1532 rfl ?_
  refine sx_icmp_eq C dL_law_1532 1537 1535 (by decide) rfl (fun c1 => ?_) (fun c1 => absurd h.1 c1)
  refine sx_iload C dL_law_1537 1 rfl 1539 rfl ?_
  refine sx_if_ne C dL_law_1539 1554 1542 (by decide) rfl (fun c2 => ?_) (fun c2 => ?_)
  · refine sx_goto C dL_law_1554 2395 (by decide) ?_
    refine sx_widen (k := cl + 9) (n := sl + 54) (by omega) (by omega) ?_
    exact sx_sub [2, 3, 4, 5, 6] rfl (hend _ _ _ h.2.2)
  · refine sx_aload_n C dL_law_1542 3 5 rfl rfl 1543 rfl ?_
    refine sx_iconst C dL_law_1543 0 (by decide) 1544 rfl ?_
    refine sx_lald C dL_law_1544 1545 rfl ?_
    refine sx_iload C dL_law_1545 0 rfl 1547 rfl ?_
    refine sx_i2l C dL_law_1547 1548 rfl ?_
    refine sx_lcmp C dL_law_1548 1549 rfl ?_
    refine sx_if_eq C dL_law_1549 1554 1552 (by decide) rfl (fun c3 => ?_) (fun c3 => absurd ((lg_cmp_eq _ _).mpr (h.2.1 c2)) c3)
    refine sx_goto C dL_law_1554 2395 (by decide) ?_
    refine sx_widen (k := cl + 9) (n := sl + 54) (by omega) (by omega) ?_
    exact sx_sub [2, 3, 4, 5, 6] rfl (hend _ _ _ h.2.2)
set_option maxRecDepth 100000 in
set_option maxHeartbeats 4000000 in
theorem case_width {p : Program} {l : Launch} {e : Env} {s : State} {m : MethodId} {below : List Frame} {meth : Method} {c : Code} {D : va_G} {G : sx_G} {A : Nat → Prop} {b1 b2 bo bs L cl sl : Nat} {xs : Nat → Int32} {Q : State → Prop} {f g : sx_F} {o : Nat → Int64} {i : Int32} {K : sx_F → sx_F → Prop} (hf : l.stackTraces = false) (C : sx_Cx p l s m #[.ref bs] meth c D G A cL_law 7 RL) (hNC : sx_NC s) (hB1 : ∀ k, k < 129 → A (b1 + k)) (hB2 : ∀ k, k < 26 → A (b2 + k)) (hA : A bo) (hd12 : b1 + 129 ≤ b2) (hd2 : b2 + 26 ≤ bo) (hX : va_X bs L xs s s.heap) (hbl : bs < s.heap.size) (hbA : ¬ A bs) (hcl : cl + 9 ≤ 601024 ∧ sl + 54 ≤ 7293034) (hv1 : vp_in (i + 1) L) (hv2 : vp_in (i + 2) L) (hend : ∀ (f1 g1 : sx_F) (o1 : Nat → Int64), K f1 g1 → sx_J (sx_wl D G b1 129 lyX b2 26 lyM bo) p l e room_1 s m #[.ref bs] below meth c A 7 (cl + 9) (sl + 54) Q (f1, g1, o1) 2395 [(0, .ref bs), (1, .ref (b1 + 0)), (2, .ref (b2 + 0)), (3, .ref bo), (4, .int i)] []) (h : P_case_width f g o (xs (i + 1).toNatClampNeg) (xs (i + 2).toNatClampNeg) K) : sx_J (sx_wl D G b1 129 lyX b2 26 lyM bo) p l e room_1 s m #[.ref bs] below meth c A 7 (cl) (sl) Q (f, g, o) 1557 [(0, .ref bs), (1, .ref (b1 + 0)), (2, .ref (b2 + 0)), (3, .ref bo), (4, .int i)] [] := by
  unfold P_case_width at h
  refine sx_aload_n C dL_law_1557 1 1 rfl rfl 1558 rfl ?_
  refine sx_aload_n C dL_law_1558 0 0 rfl rfl 1559 rfl ?_
  refine sx_iload C dL_law_1559 4 rfl 1561 rfl ?_
  refine sx_iconst C dL_law_1561 1 (by decide) 1562 rfl ?_
  refine sx_iadd C dL_law_1562 1563 rfl ?_
  refine sx_sld C hX hbl hbA hv1 dL_law_1563 1564 rfl ?_
  refine sx_aload_n C dL_law_1564 0 0 rfl rfl 1565 rfl ?_
  refine sx_iload C dL_law_1565 4 rfl 1567 rfl ?_
  refine sx_iconst C dL_law_1567 2 (by decide) 1568 rfl ?_
  refine sx_iadd C dL_law_1568 1569 rfl ?_
  refine sx_sld C hX hbl hbA hv2 dL_law_1569 1570 rfl ?_
  refine sx_aload_n C dL_law_1570 3 3 rfl rfl 1571 rfl ?_
  refine sx_lcallW C hNC hB1 hA hd12 hd2 (st := []) dL_law_1571 (c_L_width hf (by omega) h) wi_L_width wn_L_width wt_L_width lk_L_197 ⟨by decide, by decide, (show _ = some 4 from by decide +kernel)⟩ rfl rfl ⟨⟨(Nat.le_of_ble_eq_true rfl), (Nat.le_of_ble_eq_true rfl)⟩, (by show cl + 2 ≤ 601024; omega), (by show sl + 12 ≤ 7293034; omega)⟩ (Nat.le_of_ble_eq_true rfl) 1574 rfl (fun k f1 o1 h => ?_)
  refine sx_istore C dL_law_1574 [(5, .int k), (0, .ref bs), (1, .ref (b1 + 0)), (2, .ref (b2 + 0)), (3, .ref bo), (4, .int i)] (by decide) rfl 1576 rfl ?_
  refine sx_aload_n C dL_law_1576 2 3 rfl rfl 1577 rfl ?_
  refine sx_aload_n C dL_law_1577 0 1 rfl rfl 1578 rfl ?_
  refine sx_iload C dL_law_1578 5 rfl 1580 rfl ?_
  refine sx_iconst C dL_law_1580 1 (by decide) 1581 rfl ?_
  refine sx_iadd C dL_law_1581 1582 rfl ?_
  refine sx_sld C hX hbl hbA hv1 dL_law_1582 1583 rfl ?_
  refine sx_aload_n C dL_law_1583 0 1 rfl rfl 1584 rfl ?_
  refine sx_iload C dL_law_1584 5 rfl 1586 rfl ?_
  refine sx_iconst C dL_law_1586 2 (by decide) 1587 rfl ?_
  refine sx_iadd C dL_law_1587 1588 rfl ?_
  refine sx_sld C hX hbl hbA hv2 dL_law_1588 1589 rfl ?_
  refine sx_lcall2 C hB2 hd12 hd2 (st := []) dL_law_1589 (c_X7_width hf h) mi_X7_width lk_L_199 mn_X7_width ms_X7_width (by decide) lyM_0 rfl rfl rfl rfl ⟨⟨(Nat.le_of_ble_eq_true rfl), (Nat.le_of_ble_eq_true rfl)⟩, (by show cl + 2 + 0 ≤ 601024; omega), (by show sl + 12 + 0 ≤ 7293034; omega)⟩ (Nat.le_of_ble_eq_true rfl) 1592 rfl (fun v g1 h => ?_)
  obtain ⟨r, rfl, h⟩ := h
  refine sx_istore C dL_law_1592 [(6, .int r), (5, .int k), (0, .ref bs), (1, .ref (b1 + 0)), (2, .ref (b2 + 0)), (3, .ref bo), (4, .int i)] (by decide) rfl 1594 rfl ?_
  refine sx_aload_n C dL_law_1594 2 4 rfl rfl 1595 rfl ?_
  refine sx_lcall2 C hB2 hd12 hd2 (st := []) dL_law_1595 (c_X7_thrown hf h) mi_X7_thrown lk_L_129 mn_X7_thrown ms_X7_thrown (by decide) lyM_0 rfl rfl rfl rfl ⟨⟨(Nat.le_of_ble_eq_true rfl), (Nat.le_of_ble_eq_true rfl)⟩, (by show cl + 2 + 0 ≤ 601024; omega), (by show sl + 12 + 0 ≤ 7293034; omega)⟩ (Nat.le_of_ble_eq_true rfl) 1598 rfl (fun v g2 h => ?_)
  obtain ⟨⟨t, rfl, h⟩, rfl⟩ := h
  refine sx_iload C dL_law_1598 1 rfl 1600 rfl ?_
  refine sx_icmp_eq C dL_law_1600 1605 1603 (by decide) rfl (fun c1 => ?_) (fun c1 => absurd h.1 c1)
  refine sx_iload C dL_law_1605 1 rfl 1607 rfl ?_
  refine sx_if_ne C dL_law_1607 1622 1610 (by decide) rfl (fun c2 => ?_) (fun c2 => ?_)
  · refine sx_goto C dL_law_1622 2395 (by decide) ?_
    refine sx_widen (k := cl + 9) (n := sl + 54) (by omega) (by omega) ?_
    exact sx_sub [2, 3, 4, 5, 6] rfl (hend _ _ _ h.2.2)
  · refine sx_aload_n C dL_law_1610 3 5 rfl rfl 1611 rfl ?_
    refine sx_iconst C dL_law_1611 0 (by decide) 1612 rfl ?_
    refine sx_lald C dL_law_1612 1613 rfl ?_
    refine sx_iload C dL_law_1613 0 rfl 1615 rfl ?_
    refine sx_i2l C dL_law_1615 1616 rfl ?_
    refine sx_lcmp C dL_law_1616 1617 rfl ?_
    refine sx_if_eq C dL_law_1617 1622 1620 (by decide) rfl (fun c3 => ?_) (fun c3 => absurd ((lg_cmp_eq _ _).mpr (h.2.1 c2)) c3)
    refine sx_goto C dL_law_1622 2395 (by decide) ?_
    refine sx_widen (k := cl + 9) (n := sl + 54) (by omega) (by omega) ?_
    exact sx_sub [2, 3, 4, 5, 6] rfl (hend _ _ _ h.2.2)
set_option maxRecDepth 100000 in
set_option maxHeartbeats 4000000 in
theorem case_lines {p : Program} {l : Launch} {e : Env} {s : State} {m : MethodId} {below : List Frame} {meth : Method} {c : Code} {D : va_G} {G : sx_G} {A : Nat → Prop} {b1 b2 bo bs L cl sl : Nat} {xs : Nat → Int32} {Q : State → Prop} {f g : sx_F} {o : Nat → Int64} {i : Int32} {K : sx_F → sx_F → Prop} (hf : l.stackTraces = false) (C : sx_Cx p l s m #[.ref bs] meth c D G A cL_law 7 RL) (hNC : sx_NC s) (hB1 : ∀ k, k < 129 → A (b1 + k)) (hB2 : ∀ k, k < 26 → A (b2 + k)) (hA : A bo) (hd12 : b1 + 129 ≤ b2) (hd2 : b2 + 26 ≤ bo) (hX : va_X bs L xs s s.heap) (hbl : bs < s.heap.size) (hbA : ¬ A bs) (hcl : cl + 9 ≤ 601024 ∧ sl + 54 ≤ 7293034) (hv1 : vp_in (i + 1) L) (hend : ∀ (f1 g1 : sx_F) (o1 : Nat → Int64), K f1 g1 → sx_J (sx_wl D G b1 129 lyX b2 26 lyM bo) p l e room_1 s m #[.ref bs] below meth c A 7 (cl + 9) (sl + 54) Q (f1, g1, o1) 2395 [(0, .ref bs), (1, .ref (b1 + 0)), (2, .ref (b2 + 0)), (3, .ref bo), (4, .int i)] []) (h : P_case_lines f g o (xs (i + 1).toNatClampNeg) K) : sx_J (sx_wl D G b1 129 lyX b2 26 lyM bo) p l e room_1 s m #[.ref bs] below meth c A 7 (cl) (sl) Q (f, g, o) 1625 [(0, .ref bs), (1, .ref (b1 + 0)), (2, .ref (b2 + 0)), (3, .ref bo), (4, .int i)] [] := by
  unfold P_case_lines at h
  refine sx_aload_n C dL_law_1625 1 1 rfl rfl 1626 rfl ?_
  refine sx_aload_n C dL_law_1626 0 0 rfl rfl 1627 rfl ?_
  refine sx_iload C dL_law_1627 4 rfl 1629 rfl ?_
  refine sx_iconst C dL_law_1629 1 (by decide) 1630 rfl ?_
  refine sx_iadd C dL_law_1630 1631 rfl ?_
  refine sx_sld C hX hbl hbA hv1 dL_law_1631 1632 rfl ?_
  refine sx_aload_n C dL_law_1632 3 3 rfl rfl 1633 rfl ?_
  refine sx_lcallW C hNC hB1 hA hd12 hd2 (st := []) dL_law_1633 (c_L_lines hf (by omega) h) wi_L_lines wn_L_lines wt_L_lines lk_L_200 ⟨by decide, by decide, (show _ = some 3 from by decide +kernel)⟩ rfl rfl ⟨⟨(Nat.le_of_ble_eq_true rfl), (Nat.le_of_ble_eq_true rfl)⟩, (by show cl + 1 ≤ 601024; omega), (by show sl + 6 ≤ 7293034; omega)⟩ (Nat.le_of_ble_eq_true rfl) 1636 rfl (fun k f1 o1 h => ?_)
  refine sx_istore C dL_law_1636 [(5, .int k), (0, .ref bs), (1, .ref (b1 + 0)), (2, .ref (b2 + 0)), (3, .ref bo), (4, .int i)] (by decide) rfl 1638 rfl ?_
  refine sx_aload_n C dL_law_1638 2 3 rfl rfl 1639 rfl ?_
  refine sx_aload_n C dL_law_1639 0 1 rfl rfl 1640 rfl ?_
  refine sx_iload C dL_law_1640 5 rfl 1642 rfl ?_
  refine sx_iconst C dL_law_1642 1 (by decide) 1643 rfl ?_
  refine sx_iadd C dL_law_1643 1644 rfl ?_
  refine sx_sld C hX hbl hbA hv1 dL_law_1644 1645 rfl ?_
  refine sx_lcall2 C hB2 hd12 hd2 (st := []) dL_law_1645 (c_X7_lines hf h) mi_X7_lines lk_L_202 mn_X7_lines ms_X7_lines (by decide) lyM_0 rfl rfl rfl rfl ⟨⟨(Nat.le_of_ble_eq_true rfl), (Nat.le_of_ble_eq_true rfl)⟩, (by show cl + 1 + 0 ≤ 601024; omega), (by show sl + 6 + 0 ≤ 7293034; omega)⟩ (Nat.le_of_ble_eq_true rfl) 1648 rfl (fun v g1 h => ?_)
  obtain ⟨r, rfl, h⟩ := h
  refine sx_istore C dL_law_1648 [(6, .int r), (5, .int k), (0, .ref bs), (1, .ref (b1 + 0)), (2, .ref (b2 + 0)), (3, .ref bo), (4, .int i)] (by decide) rfl 1650 rfl ?_
  refine sx_aload_n C dL_law_1650 2 4 rfl rfl 1651 rfl ?_
  refine sx_lcall2 C hB2 hd12 hd2 (st := []) dL_law_1651 (c_X7_thrown hf h) mi_X7_thrown lk_L_129 mn_X7_thrown ms_X7_thrown (by decide) lyM_0 rfl rfl rfl rfl ⟨⟨(Nat.le_of_ble_eq_true rfl), (Nat.le_of_ble_eq_true rfl)⟩, (by show cl + 1 + 0 ≤ 601024; omega), (by show sl + 6 + 0 ≤ 7293034; omega)⟩ (Nat.le_of_ble_eq_true rfl) 1654 rfl (fun v g2 h => ?_)
  obtain ⟨⟨t, rfl, h⟩, rfl⟩ := h
  refine sx_iload C dL_law_1654 1 rfl 1656 rfl ?_
  refine sx_icmp_eq C dL_law_1656 1661 1659 (by decide) rfl (fun c1 => ?_) (fun c1 => absurd h.1 c1)
  refine sx_iload C dL_law_1661 1 rfl 1663 rfl ?_
  refine sx_if_ne C dL_law_1663 1678 1666 (by decide) rfl (fun c2 => ?_) (fun c2 => ?_)
  · refine sx_goto C dL_law_1678 2395 (by decide) ?_
    refine sx_widen (k := cl + 9) (n := sl + 54) (by omega) (by omega) ?_
    exact sx_sub [2, 3, 4, 5, 6] rfl (hend _ _ _ h.2.2)
  · refine sx_aload_n C dL_law_1666 3 5 rfl rfl 1667 rfl ?_
    refine sx_iconst C dL_law_1667 0 (by decide) 1668 rfl ?_
    refine sx_lald C dL_law_1668 1669 rfl ?_
    refine sx_iload C dL_law_1669 0 rfl 1671 rfl ?_
    refine sx_i2l C dL_law_1671 1672 rfl ?_
    refine sx_lcmp C dL_law_1672 1673 rfl ?_
    refine sx_if_eq C dL_law_1673 1678 1676 (by decide) rfl (fun c3 => ?_) (fun c3 => absurd ((lg_cmp_eq _ _).mpr (h.2.1 c2)) c3)
    refine sx_goto C dL_law_1678 2395 (by decide) ?_
    refine sx_widen (k := cl + 9) (n := sl + 54) (by omega) (by omega) ?_
    exact sx_sub [2, 3, 4, 5, 6] rfl (hend _ _ _ h.2.2)
set_option maxRecDepth 100000 in
set_option maxHeartbeats 4000000 in
theorem case_lineOf {p : Program} {l : Launch} {e : Env} {s : State} {m : MethodId} {below : List Frame} {meth : Method} {c : Code} {D : va_G} {G : sx_G} {A : Nat → Prop} {b1 b2 bo bs L cl sl : Nat} {xs : Nat → Int32} {Q : State → Prop} {f g : sx_F} {o : Nat → Int64} {i : Int32} {K : sx_F → sx_F → Prop} (hf : l.stackTraces = false) (C : sx_Cx p l s m #[.ref bs] meth c D G A cL_law 7 RL) (hNC : sx_NC s) (hB1 : ∀ k, k < 129 → A (b1 + k)) (hB2 : ∀ k, k < 26 → A (b2 + k)) (hA : A bo) (hd12 : b1 + 129 ≤ b2) (hd2 : b2 + 26 ≤ bo) (hX : va_X bs L xs s s.heap) (hbl : bs < s.heap.size) (hbA : ¬ A bs) (hcl : cl + 9 ≤ 601024 ∧ sl + 54 ≤ 7293034) (hv1 : vp_in (i + 1) L) (hv2 : vp_in (i + 2) L) (hend : ∀ (f1 g1 : sx_F) (o1 : Nat → Int64), K f1 g1 → sx_J (sx_wl D G b1 129 lyX b2 26 lyM bo) p l e room_1 s m #[.ref bs] below meth c A 7 (cl + 9) (sl + 54) Q (f1, g1, o1) 2395 [(0, .ref bs), (1, .ref (b1 + 0)), (2, .ref (b2 + 0)), (3, .ref bo), (4, .int i)] []) (h : P_case_lineOf f g o (xs (i + 1).toNatClampNeg) (xs (i + 2).toNatClampNeg) K) : sx_J (sx_wl D G b1 129 lyX b2 26 lyM bo) p l e room_1 s m #[.ref bs] below meth c A 7 (cl) (sl) Q (f, g, o) 1681 [(0, .ref bs), (1, .ref (b1 + 0)), (2, .ref (b2 + 0)), (3, .ref bo), (4, .int i)] [] := by
  unfold P_case_lineOf at h
  refine sx_aload_n C dL_law_1681 1 1 rfl rfl 1682 rfl ?_
  refine sx_aload_n C dL_law_1682 0 0 rfl rfl 1683 rfl ?_
  refine sx_iload C dL_law_1683 4 rfl 1685 rfl ?_
  refine sx_iconst C dL_law_1685 1 (by decide) 1686 rfl ?_
  refine sx_iadd C dL_law_1686 1687 rfl ?_
  refine sx_sld C hX hbl hbA hv1 dL_law_1687 1688 rfl ?_
  refine sx_aload_n C dL_law_1688 0 0 rfl rfl 1689 rfl ?_
  refine sx_iload C dL_law_1689 4 rfl 1691 rfl ?_
  refine sx_iconst C dL_law_1691 2 (by decide) 1692 rfl ?_
  refine sx_iadd C dL_law_1692 1693 rfl ?_
  refine sx_sld C hX hbl hbA hv2 dL_law_1693 1694 rfl ?_
  refine sx_aload_n C dL_law_1694 3 3 rfl rfl 1695 rfl ?_
  refine sx_lcallW C hNC hB1 hA hd12 hd2 (st := []) dL_law_1695 (c_L_lineOf hf (by omega) h) wi_L_lineOf wn_L_lineOf wt_L_lineOf lk_L_203 ⟨by decide, by decide, (show _ = some 4 from by decide +kernel)⟩ rfl rfl ⟨⟨(Nat.le_of_ble_eq_true rfl), (Nat.le_of_ble_eq_true rfl)⟩, (by show cl + 2 ≤ 601024; omega), (by show sl + 12 ≤ 7293034; omega)⟩ (Nat.le_of_ble_eq_true rfl) 1698 rfl (fun k f1 o1 h => ?_)
  refine sx_istore C dL_law_1698 [(5, .int k), (0, .ref bs), (1, .ref (b1 + 0)), (2, .ref (b2 + 0)), (3, .ref bo), (4, .int i)] (by decide) rfl 1700 rfl ?_
  refine sx_aload_n C dL_law_1700 2 3 rfl rfl 1701 rfl ?_
  refine sx_aload_n C dL_law_1701 0 1 rfl rfl 1702 rfl ?_
  refine sx_iload C dL_law_1702 5 rfl 1704 rfl ?_
  refine sx_iconst C dL_law_1704 1 (by decide) 1705 rfl ?_
  refine sx_iadd C dL_law_1705 1706 rfl ?_
  refine sx_sld C hX hbl hbA hv1 dL_law_1706 1707 rfl ?_
  refine sx_aload_n C dL_law_1707 0 1 rfl rfl 1708 rfl ?_
  refine sx_iload C dL_law_1708 5 rfl 1710 rfl ?_
  refine sx_iconst C dL_law_1710 2 (by decide) 1711 rfl ?_
  refine sx_iadd C dL_law_1711 1712 rfl ?_
  refine sx_sld C hX hbl hbA hv2 dL_law_1712 1713 rfl ?_
  refine sx_lcall2 C hB2 hd12 hd2 (st := []) dL_law_1713 (c_X7_lineOf hf h) mi_X7_lineOf lk_L_205 mn_X7_lineOf ms_X7_lineOf (by decide) lyM_0 rfl rfl rfl rfl ⟨⟨(Nat.le_of_ble_eq_true rfl), (Nat.le_of_ble_eq_true rfl)⟩, (by show cl + 2 + 0 ≤ 601024; omega), (by show sl + 12 + 0 ≤ 7293034; omega)⟩ (Nat.le_of_ble_eq_true rfl) 1716 rfl (fun v g1 h => ?_)
  obtain ⟨r, rfl, h⟩ := h
  refine sx_istore C dL_law_1716 [(6, .int r), (5, .int k), (0, .ref bs), (1, .ref (b1 + 0)), (2, .ref (b2 + 0)), (3, .ref bo), (4, .int i)] (by decide) rfl 1718 rfl ?_
  refine sx_aload_n C dL_law_1718 2 4 rfl rfl 1719 rfl ?_
  refine sx_lcall2 C hB2 hd12 hd2 (st := []) dL_law_1719 (c_X7_thrown hf h) mi_X7_thrown lk_L_129 mn_X7_thrown ms_X7_thrown (by decide) lyM_0 rfl rfl rfl rfl ⟨⟨(Nat.le_of_ble_eq_true rfl), (Nat.le_of_ble_eq_true rfl)⟩, (by show cl + 2 + 0 ≤ 601024; omega), (by show sl + 12 + 0 ≤ 7293034; omega)⟩ (Nat.le_of_ble_eq_true rfl) 1722 rfl (fun v g2 h => ?_)
  obtain ⟨⟨t, rfl, h⟩, rfl⟩ := h
  refine sx_iload C dL_law_1722 1 rfl 1724 rfl ?_
  refine sx_icmp_eq C dL_law_1724 1729 1727 (by decide) rfl (fun c1 => ?_) (fun c1 => absurd h.1 c1)
  refine sx_iload C dL_law_1729 1 rfl 1731 rfl ?_
  refine sx_if_ne C dL_law_1731 1746 1734 (by decide) rfl (fun c2 => ?_) (fun c2 => ?_)
  · refine sx_goto C dL_law_1746 2395 (by decide) ?_
    refine sx_widen (k := cl + 9) (n := sl + 54) (by omega) (by omega) ?_
    exact sx_sub [2, 3, 4, 5, 6] rfl (hend _ _ _ h.2.2)
  · refine sx_aload_n C dL_law_1734 3 5 rfl rfl 1735 rfl ?_
    refine sx_iconst C dL_law_1735 0 (by decide) 1736 rfl ?_
    refine sx_lald C dL_law_1736 1737 rfl ?_
    refine sx_iload C dL_law_1737 0 rfl 1739 rfl ?_
    refine sx_i2l C dL_law_1739 1740 rfl ?_
    refine sx_lcmp C dL_law_1740 1741 rfl ?_
    refine sx_if_eq C dL_law_1741 1746 1744 (by decide) rfl (fun c3 => ?_) (fun c3 => absurd ((lg_cmp_eq _ _).mpr (h.2.1 c2)) c3)
    refine sx_goto C dL_law_1746 2395 (by decide) ?_
    refine sx_widen (k := cl + 9) (n := sl + 54) (by omega) (by omega) ?_
    exact sx_sub [2, 3, 4, 5, 6] rfl (hend _ _ _ h.2.2)
set_option maxRecDepth 100000 in
set_option maxHeartbeats 4000000 in
theorem case_cost {p : Program} {l : Launch} {e : Env} {s : State} {m : MethodId} {below : List Frame} {meth : Method} {c : Code} {D : va_G} {G : sx_G} {A : Nat → Prop} {b1 b2 bo bs L cl sl : Nat} {xs : Nat → Int32} {Q : State → Prop} {f g : sx_F} {o : Nat → Int64} {i : Int32} {K : sx_F → sx_F → Prop} (hf : l.stackTraces = false) (C : sx_Cx p l s m #[.ref bs] meth c D G A cL_law 7 RL) (hNC : sx_NC s) (hB1 : ∀ k, k < 129 → A (b1 + k)) (hB2 : ∀ k, k < 26 → A (b2 + k)) (hA : A bo) (hd12 : b1 + 129 ≤ b2) (hd2 : b2 + 26 ≤ bo) (hX : va_X bs L xs s s.heap) (hbl : bs < s.heap.size) (hbA : ¬ A bs) (hcl : cl + 9 ≤ 601024 ∧ sl + 54 ≤ 7293034) (hv1 : vp_in (i + 1) L) (hend : ∀ (f1 g1 : sx_F) (o1 : Nat → Int64), K f1 g1 → sx_J (sx_wl D G b1 129 lyX b2 26 lyM bo) p l e room_1 s m #[.ref bs] below meth c A 7 (cl + 9) (sl + 54) Q (f1, g1, o1) 2395 [(0, .ref bs), (1, .ref (b1 + 0)), (2, .ref (b2 + 0)), (3, .ref bo), (4, .int i)] []) (h : P_case_cost f g o (xs (i + 1).toNatClampNeg) K) : sx_J (sx_wl D G b1 129 lyX b2 26 lyM bo) p l e room_1 s m #[.ref bs] below meth c A 7 (cl) (sl) Q (f, g, o) 1749 [(0, .ref bs), (1, .ref (b1 + 0)), (2, .ref (b2 + 0)), (3, .ref bo), (4, .int i)] [] := by
  unfold P_case_cost at h
  refine sx_aload_n C dL_law_1749 1 1 rfl rfl 1750 rfl ?_
  refine sx_aload_n C dL_law_1750 0 0 rfl rfl 1751 rfl ?_
  refine sx_iload C dL_law_1751 4 rfl 1753 rfl ?_
  refine sx_iconst C dL_law_1753 1 (by decide) 1754 rfl ?_
  refine sx_iadd C dL_law_1754 1755 rfl ?_
  refine sx_sld C hX hbl hbA hv1 dL_law_1755 1756 rfl ?_
  refine sx_aload_n C dL_law_1756 3 3 rfl rfl 1757 rfl ?_
  refine sx_lcallW C hNC hB1 hA hd12 hd2 (st := []) dL_law_1757 (c_L_cost hf (by omega) h) wi_L_cost wn_L_cost wt_L_cost lk_L_206 ⟨by decide, by decide, (show _ = some 3 from by decide +kernel)⟩ rfl rfl ⟨⟨(Nat.le_of_ble_eq_true rfl), (Nat.le_of_ble_eq_true rfl)⟩, (by show cl + 1 ≤ 601024; omega), (by show sl + 6 ≤ 7293034; omega)⟩ (Nat.le_of_ble_eq_true rfl) 1760 rfl (fun k f1 o1 h => ?_)
  refine sx_istore C dL_law_1760 [(5, .int k), (0, .ref bs), (1, .ref (b1 + 0)), (2, .ref (b2 + 0)), (3, .ref bo), (4, .int i)] (by decide) rfl 1762 rfl ?_
  refine sx_aload_n C dL_law_1762 2 3 rfl rfl 1763 rfl ?_
  refine sx_aload_n C dL_law_1763 0 1 rfl rfl 1764 rfl ?_
  refine sx_iload C dL_law_1764 5 rfl 1766 rfl ?_
  refine sx_iconst C dL_law_1766 1 (by decide) 1767 rfl ?_
  refine sx_iadd C dL_law_1767 1768 rfl ?_
  refine sx_sld C hX hbl hbA hv1 dL_law_1768 1769 rfl ?_
  refine sx_lcall2 C hB2 hd12 hd2 (st := []) dL_law_1769 (c_X7_cost hf h) mi_X7_cost lk_L_208 mn_X7_cost ms_X7_cost (by decide) lyM_0 rfl rfl rfl rfl ⟨⟨(Nat.le_of_ble_eq_true rfl), (Nat.le_of_ble_eq_true rfl)⟩, (by show cl + 1 + 0 ≤ 601024; omega), (by show sl + 6 + 0 ≤ 7293034; omega)⟩ (Nat.le_of_ble_eq_true rfl) 1772 rfl (fun v g1 h => ?_)
  obtain ⟨r, rfl, h⟩ := h
  refine sx_istore C dL_law_1772 [(6, .int r), (5, .int k), (0, .ref bs), (1, .ref (b1 + 0)), (2, .ref (b2 + 0)), (3, .ref bo), (4, .int i)] (by decide) rfl 1774 rfl ?_
  refine sx_aload_n C dL_law_1774 2 4 rfl rfl 1775 rfl ?_
  refine sx_lcall2 C hB2 hd12 hd2 (st := []) dL_law_1775 (c_X7_thrown hf h) mi_X7_thrown lk_L_129 mn_X7_thrown ms_X7_thrown (by decide) lyM_0 rfl rfl rfl rfl ⟨⟨(Nat.le_of_ble_eq_true rfl), (Nat.le_of_ble_eq_true rfl)⟩, (by show cl + 1 + 0 ≤ 601024; omega), (by show sl + 6 + 0 ≤ 7293034; omega)⟩ (Nat.le_of_ble_eq_true rfl) 1778 rfl (fun v g2 h => ?_)
  obtain ⟨⟨t, rfl, h⟩, rfl⟩ := h
  refine sx_iload C dL_law_1778 1 rfl 1780 rfl ?_
  refine sx_icmp_eq C dL_law_1780 1785 1783 (by decide) rfl (fun c1 => ?_) (fun c1 => absurd h.1 c1)
  refine sx_iload C dL_law_1785 1 rfl 1787 rfl ?_
  refine sx_if_ne C dL_law_1787 1802 1790 (by decide) rfl (fun c2 => ?_) (fun c2 => ?_)
  · refine sx_goto C dL_law_1802 2395 (by decide) ?_
    refine sx_widen (k := cl + 9) (n := sl + 54) (by omega) (by omega) ?_
    exact sx_sub [2, 3, 4, 5, 6] rfl (hend _ _ _ h.2.2)
  · refine sx_aload_n C dL_law_1790 3 5 rfl rfl 1791 rfl ?_
    refine sx_iconst C dL_law_1791 0 (by decide) 1792 rfl ?_
    refine sx_lald C dL_law_1792 1793 rfl ?_
    refine sx_iload C dL_law_1793 0 rfl 1795 rfl ?_
    refine sx_i2l C dL_law_1795 1796 rfl ?_
    refine sx_lcmp C dL_law_1796 1797 rfl ?_
    refine sx_if_eq C dL_law_1797 1802 1800 (by decide) rfl (fun c3 => ?_) (fun c3 => absurd ((lg_cmp_eq _ _).mpr (h.2.1 c2)) c3)
    refine sx_goto C dL_law_1802 2395 (by decide) ?_
    refine sx_widen (k := cl + 9) (n := sl + 54) (by omega) (by omega) ?_
    exact sx_sub [2, 3, 4, 5, 6] rfl (hend _ _ _ h.2.2)
set_option maxRecDepth 100000 in
set_option maxHeartbeats 4000000 in
theorem case_costByAll {p : Program} {l : Launch} {e : Env} {s : State} {m : MethodId} {below : List Frame} {meth : Method} {c : Code} {D : va_G} {G : sx_G} {A : Nat → Prop} {b1 b2 bo bs L cl sl : Nat} {xs : Nat → Int32} {Q : State → Prop} {f g : sx_F} {o : Nat → Int64} {i : Int32} {K : sx_F → sx_F → Prop} (hf : l.stackTraces = false) (C : sx_Cx p l s m #[.ref bs] meth c D G A cL_law 7 RL) (hNC : sx_NC s) (hB1 : ∀ k, k < 129 → A (b1 + k)) (hB2 : ∀ k, k < 26 → A (b2 + k)) (hA : A bo) (hd12 : b1 + 129 ≤ b2) (hd2 : b2 + 26 ≤ bo) (hX : va_X bs L xs s s.heap) (hbl : bs < s.heap.size) (hbA : ¬ A bs) (hcl : cl + 9 ≤ 601024 ∧ sl + 54 ≤ 7293034) (hv1 : vp_in (i + 1) L) (hend : ∀ (f1 g1 : sx_F) (o1 : Nat → Int64), K f1 g1 → sx_J (sx_wl D G b1 129 lyX b2 26 lyM bo) p l e room_1 s m #[.ref bs] below meth c A 7 (cl + 9) (sl + 54) Q (f1, g1, o1) 2395 [(0, .ref bs), (1, .ref (b1 + 0)), (2, .ref (b2 + 0)), (3, .ref bo), (4, .int i)] []) (h : P_case_costByAll f g o (xs (i + 1).toNatClampNeg) K) : sx_J (sx_wl D G b1 129 lyX b2 26 lyM bo) p l e room_1 s m #[.ref bs] below meth c A 7 (cl) (sl) Q (f, g, o) 1805 [(0, .ref bs), (1, .ref (b1 + 0)), (2, .ref (b2 + 0)), (3, .ref bo), (4, .int i)] [] := by
  unfold P_case_costByAll at h
  refine sx_aload_n C dL_law_1805 1 1 rfl rfl 1806 rfl ?_
  refine sx_aload_n C dL_law_1806 0 0 rfl rfl 1807 rfl ?_
  refine sx_iload C dL_law_1807 4 rfl 1809 rfl ?_
  refine sx_iconst C dL_law_1809 1 (by decide) 1810 rfl ?_
  refine sx_iadd C dL_law_1810 1811 rfl ?_
  refine sx_sld C hX hbl hbA hv1 dL_law_1811 1812 rfl ?_
  refine sx_aload_n C dL_law_1812 3 3 rfl rfl 1813 rfl ?_
  refine sx_lcallW C hNC hB1 hA hd12 hd2 (st := []) dL_law_1813 (c_L_costByAll hf (by omega) h) wi_L_costByAll wn_L_costByAll wt_L_costByAll lk_L_209 ⟨by decide, by decide, (show _ = some 3 from by decide +kernel)⟩ rfl rfl ⟨⟨(Nat.le_of_ble_eq_true rfl), (Nat.le_of_ble_eq_true rfl)⟩, (by show cl + 1 ≤ 601024; omega), (by show sl + 6 ≤ 7293034; omega)⟩ (Nat.le_of_ble_eq_true rfl) 1816 rfl (fun k f1 o1 h => ?_)
  refine sx_istore C dL_law_1816 [(5, .int k), (0, .ref bs), (1, .ref (b1 + 0)), (2, .ref (b2 + 0)), (3, .ref bo), (4, .int i)] (by decide) rfl 1818 rfl ?_
  refine sx_aload_n C dL_law_1818 2 3 rfl rfl 1819 rfl ?_
  refine sx_aload_n C dL_law_1819 0 1 rfl rfl 1820 rfl ?_
  refine sx_iload C dL_law_1820 5 rfl 1822 rfl ?_
  refine sx_iconst C dL_law_1822 1 (by decide) 1823 rfl ?_
  refine sx_iadd C dL_law_1823 1824 rfl ?_
  refine sx_sld C hX hbl hbA hv1 dL_law_1824 1825 rfl ?_
  refine sx_lcall2 C hB2 hd12 hd2 (st := []) dL_law_1825 (c_X7_costByAll hf h) mi_X7_costByAll lk_L_211 mn_X7_costByAll ms_X7_costByAll (by decide) lyM_0 rfl rfl rfl rfl ⟨⟨(Nat.le_of_ble_eq_true rfl), (Nat.le_of_ble_eq_true rfl)⟩, (by show cl + 1 + 0 ≤ 601024; omega), (by show sl + 6 + 0 ≤ 7293034; omega)⟩ (Nat.le_of_ble_eq_true rfl) 1828 rfl (fun v g1 h => ?_)
  obtain ⟨r, rfl, h⟩ := h
  refine sx_istore C dL_law_1828 [(6, .int r), (5, .int k), (0, .ref bs), (1, .ref (b1 + 0)), (2, .ref (b2 + 0)), (3, .ref bo), (4, .int i)] (by decide) rfl 1830 rfl ?_
  refine sx_aload_n C dL_law_1830 2 4 rfl rfl 1831 rfl ?_
  refine sx_lcall2 C hB2 hd12 hd2 (st := []) dL_law_1831 (c_X7_thrown hf h) mi_X7_thrown lk_L_129 mn_X7_thrown ms_X7_thrown (by decide) lyM_0 rfl rfl rfl rfl ⟨⟨(Nat.le_of_ble_eq_true rfl), (Nat.le_of_ble_eq_true rfl)⟩, (by show cl + 1 + 0 ≤ 601024; omega), (by show sl + 6 + 0 ≤ 7293034; omega)⟩ (Nat.le_of_ble_eq_true rfl) 1834 rfl (fun v g2 h => ?_)
  obtain ⟨⟨t, rfl, h⟩, rfl⟩ := h
  refine sx_iload C dL_law_1834 1 rfl 1836 rfl ?_
  refine sx_icmp_eq C dL_law_1836 1841 1839 (by decide) rfl (fun c1 => ?_) (fun c1 => absurd h.1 c1)
  refine sx_iload C dL_law_1841 1 rfl 1843 rfl ?_
  refine sx_if_ne C dL_law_1843 1858 1846 (by decide) rfl (fun c2 => ?_) (fun c2 => ?_)
  · refine sx_goto C dL_law_1858 2395 (by decide) ?_
    refine sx_widen (k := cl + 9) (n := sl + 54) (by omega) (by omega) ?_
    exact sx_sub [2, 3, 4, 5, 6] rfl (hend _ _ _ h.2.2)
  · refine sx_aload_n C dL_law_1846 3 5 rfl rfl 1847 rfl ?_
    refine sx_iconst C dL_law_1847 0 (by decide) 1848 rfl ?_
    refine sx_lald C dL_law_1848 1849 rfl ?_
    refine sx_iload C dL_law_1849 0 rfl 1851 rfl ?_
    refine sx_i2l C dL_law_1851 1852 rfl ?_
    refine sx_lcmp C dL_law_1852 1853 rfl ?_
    refine sx_if_eq C dL_law_1853 1858 1856 (by decide) rfl (fun c3 => ?_) (fun c3 => absurd ((lg_cmp_eq _ _).mpr (h.2.1 c2)) c3)
    refine sx_goto C dL_law_1858 2395 (by decide) ?_
    refine sx_widen (k := cl + 9) (n := sl + 54) (by omega) (by omega) ?_
    exact sx_sub [2, 3, 4, 5, 6] rfl (hend _ _ _ h.2.2)
set_option maxRecDepth 100000 in
set_option maxHeartbeats 4000000 in
theorem case_turns {p : Program} {l : Launch} {e : Env} {s : State} {m : MethodId} {below : List Frame} {meth : Method} {c : Code} {D : va_G} {G : sx_G} {A : Nat → Prop} {b1 b2 bo bs L cl sl : Nat} {xs : Nat → Int32} {Q : State → Prop} {f g : sx_F} {o : Nat → Int64} {i : Int32} {K : sx_F → sx_F → Prop} (hf : l.stackTraces = false) (C : sx_Cx p l s m #[.ref bs] meth c D G A cL_law 7 RL) (hNC : sx_NC s) (hB1 : ∀ k, k < 129 → A (b1 + k)) (hB2 : ∀ k, k < 26 → A (b2 + k)) (hA : A bo) (hd12 : b1 + 129 ≤ b2) (hd2 : b2 + 26 ≤ bo) (hX : va_X bs L xs s s.heap) (hbl : bs < s.heap.size) (hbA : ¬ A bs) (hcl : cl + 9 ≤ 601024 ∧ sl + 54 ≤ 7293034) (hv1 : vp_in (i + 1) L) (hend : ∀ (f1 g1 : sx_F) (o1 : Nat → Int64), K f1 g1 → sx_J (sx_wl D G b1 129 lyX b2 26 lyM bo) p l e room_1 s m #[.ref bs] below meth c A 7 (cl + 9) (sl + 54) Q (f1, g1, o1) 2395 [(0, .ref bs), (1, .ref (b1 + 0)), (2, .ref (b2 + 0)), (3, .ref bo), (4, .int i)] []) (h : P_case_turns f g o (xs (i + 1).toNatClampNeg) K) : sx_J (sx_wl D G b1 129 lyX b2 26 lyM bo) p l e room_1 s m #[.ref bs] below meth c A 7 (cl) (sl) Q (f, g, o) 1861 [(0, .ref bs), (1, .ref (b1 + 0)), (2, .ref (b2 + 0)), (3, .ref bo), (4, .int i)] [] := by
  unfold P_case_turns at h
  refine sx_aload_n C dL_law_1861 1 1 rfl rfl 1862 rfl ?_
  refine sx_aload_n C dL_law_1862 0 0 rfl rfl 1863 rfl ?_
  refine sx_iload C dL_law_1863 4 rfl 1865 rfl ?_
  refine sx_iconst C dL_law_1865 1 (by decide) 1866 rfl ?_
  refine sx_iadd C dL_law_1866 1867 rfl ?_
  refine sx_sld C hX hbl hbA hv1 dL_law_1867 1868 rfl ?_
  refine sx_aload_n C dL_law_1868 3 3 rfl rfl 1869 rfl ?_
  refine sx_lcallW C hNC hB1 hA hd12 hd2 (st := []) dL_law_1869 (c_L_turns hf (by omega) h) wi_L_turns wn_L_turns wt_L_turns lk_L_212 ⟨by decide, by decide, (show _ = some 3 from by decide +kernel)⟩ rfl rfl ⟨⟨(Nat.le_of_ble_eq_true rfl), (Nat.le_of_ble_eq_true rfl)⟩, (by show cl + 1 ≤ 601024; omega), (by show sl + 6 ≤ 7293034; omega)⟩ (Nat.le_of_ble_eq_true rfl) 1872 rfl (fun k f1 o1 h => ?_)
  refine sx_istore C dL_law_1872 [(5, .int k), (0, .ref bs), (1, .ref (b1 + 0)), (2, .ref (b2 + 0)), (3, .ref bo), (4, .int i)] (by decide) rfl 1874 rfl ?_
  refine sx_aload_n C dL_law_1874 2 3 rfl rfl 1875 rfl ?_
  refine sx_aload_n C dL_law_1875 0 1 rfl rfl 1876 rfl ?_
  refine sx_iload C dL_law_1876 5 rfl 1878 rfl ?_
  refine sx_iconst C dL_law_1878 1 (by decide) 1879 rfl ?_
  refine sx_iadd C dL_law_1879 1880 rfl ?_
  refine sx_sld C hX hbl hbA hv1 dL_law_1880 1881 rfl ?_
  refine sx_lcall2 C hB2 hd12 hd2 (st := []) dL_law_1881 (c_X7_turns hf h) mi_X7_turns lk_L_214 mn_X7_turns ms_X7_turns (by decide) lyM_0 rfl rfl rfl rfl ⟨⟨(Nat.le_of_ble_eq_true rfl), (Nat.le_of_ble_eq_true rfl)⟩, (by show cl + 1 + 0 ≤ 601024; omega), (by show sl + 6 + 0 ≤ 7293034; omega)⟩ (Nat.le_of_ble_eq_true rfl) 1884 rfl (fun v g1 h => ?_)
  obtain ⟨r, rfl, h⟩ := h
  refine sx_istore C dL_law_1884 [(6, .int r), (5, .int k), (0, .ref bs), (1, .ref (b1 + 0)), (2, .ref (b2 + 0)), (3, .ref bo), (4, .int i)] (by decide) rfl 1886 rfl ?_
  refine sx_aload_n C dL_law_1886 2 4 rfl rfl 1887 rfl ?_
  refine sx_lcall2 C hB2 hd12 hd2 (st := []) dL_law_1887 (c_X7_thrown hf h) mi_X7_thrown lk_L_129 mn_X7_thrown ms_X7_thrown (by decide) lyM_0 rfl rfl rfl rfl ⟨⟨(Nat.le_of_ble_eq_true rfl), (Nat.le_of_ble_eq_true rfl)⟩, (by show cl + 1 + 0 ≤ 601024; omega), (by show sl + 6 + 0 ≤ 7293034; omega)⟩ (Nat.le_of_ble_eq_true rfl) 1890 rfl (fun v g2 h => ?_)
  obtain ⟨⟨t, rfl, h⟩, rfl⟩ := h
  refine sx_iload C dL_law_1890 1 rfl 1892 rfl ?_
  refine sx_icmp_eq C dL_law_1892 1897 1895 (by decide) rfl (fun c1 => ?_) (fun c1 => absurd h.1 c1)
  refine sx_iload C dL_law_1897 1 rfl 1899 rfl ?_
  refine sx_if_ne C dL_law_1899 1914 1902 (by decide) rfl (fun c2 => ?_) (fun c2 => ?_)
  · refine sx_goto C dL_law_1914 2395 (by decide) ?_
    refine sx_widen (k := cl + 9) (n := sl + 54) (by omega) (by omega) ?_
    exact sx_sub [2, 3, 4, 5, 6] rfl (hend _ _ _ h.2.2)
  · refine sx_aload_n C dL_law_1902 3 5 rfl rfl 1903 rfl ?_
    refine sx_iconst C dL_law_1903 0 (by decide) 1904 rfl ?_
    refine sx_lald C dL_law_1904 1905 rfl ?_
    refine sx_iload C dL_law_1905 0 rfl 1907 rfl ?_
    refine sx_i2l C dL_law_1907 1908 rfl ?_
    refine sx_lcmp C dL_law_1908 1909 rfl ?_
    refine sx_if_eq C dL_law_1909 1914 1912 (by decide) rfl (fun c3 => ?_) (fun c3 => absurd ((lg_cmp_eq _ _).mpr (h.2.1 c2)) c3)
    refine sx_goto C dL_law_1914 2395 (by decide) ?_
    refine sx_widen (k := cl + 9) (n := sl + 54) (by omega) (by omega) ?_
    exact sx_sub [2, 3, 4, 5, 6] rfl (hend _ _ _ h.2.2)
set_option maxRecDepth 100000 in
set_option maxHeartbeats 4000000 in
theorem case_place {p : Program} {l : Launch} {e : Env} {s : State} {m : MethodId} {below : List Frame} {meth : Method} {c : Code} {D : va_G} {G : sx_G} {A : Nat → Prop} {b1 b2 bo bs L cl sl : Nat} {xs : Nat → Int32} {Q : State → Prop} {f g : sx_F} {o : Nat → Int64} {i : Int32} {K : sx_F → sx_F → Prop} (hf : l.stackTraces = false) (C : sx_Cx p l s m #[.ref bs] meth c D G A cL_law 7 RL) (hNC : sx_NC s) (hB1 : ∀ k, k < 129 → A (b1 + k)) (hB2 : ∀ k, k < 26 → A (b2 + k)) (hA : A bo) (hd12 : b1 + 129 ≤ b2) (hd2 : b2 + 26 ≤ bo) (hX : va_X bs L xs s s.heap) (hbl : bs < s.heap.size) (hbA : ¬ A bs) (hcl : cl + 9 ≤ 601024 ∧ sl + 54 ≤ 7293034) (hv1 : vp_in (i + 1) L) (hv2 : vp_in (i + 2) L) (hv3 : vp_in (i + 3) L) (hend : ∀ (f1 g1 : sx_F) (o1 : Nat → Int64), K f1 g1 → sx_J (sx_wl D G b1 129 lyX b2 26 lyM bo) p l e room_1 s m #[.ref bs] below meth c A 7 (cl + 9) (sl + 54) Q (f1, g1, o1) 2395 [(0, .ref bs), (1, .ref (b1 + 0)), (2, .ref (b2 + 0)), (3, .ref bo), (4, .int i)] []) (h : P_case_place f g o (xs (i + 1).toNatClampNeg) (xs (i + 2).toNatClampNeg) (xs (i + 3).toNatClampNeg) K) : sx_J (sx_wl D G b1 129 lyX b2 26 lyM bo) p l e room_1 s m #[.ref bs] below meth c A 7 (cl) (sl) Q (f, g, o) 1917 [(0, .ref bs), (1, .ref (b1 + 0)), (2, .ref (b2 + 0)), (3, .ref bo), (4, .int i)] [] := by
  unfold P_case_place at h
  refine sx_aload_n C dL_law_1917 1 1 rfl rfl 1918 rfl ?_
  refine sx_aload_n C dL_law_1918 0 0 rfl rfl 1919 rfl ?_
  refine sx_iload C dL_law_1919 4 rfl 1921 rfl ?_
  refine sx_iconst C dL_law_1921 1 (by decide) 1922 rfl ?_
  refine sx_iadd C dL_law_1922 1923 rfl ?_
  refine sx_sld C hX hbl hbA hv1 dL_law_1923 1924 rfl ?_
  refine sx_aload_n C dL_law_1924 0 0 rfl rfl 1925 rfl ?_
  refine sx_iload C dL_law_1925 4 rfl 1927 rfl ?_
  refine sx_iconst C dL_law_1927 2 (by decide) 1928 rfl ?_
  refine sx_iadd C dL_law_1928 1929 rfl ?_
  refine sx_sld C hX hbl hbA hv2 dL_law_1929 1930 rfl ?_
  refine sx_aload_n C dL_law_1930 0 0 rfl rfl 1931 rfl ?_
  refine sx_iload C dL_law_1931 4 rfl 1933 rfl ?_
  refine sx_iconst C dL_law_1933 3 (by decide) 1934 rfl ?_
  refine sx_iadd C dL_law_1934 1935 rfl ?_
  refine sx_sld C hX hbl hbA hv3 dL_law_1935 1936 rfl ?_
  refine sx_aload_n C dL_law_1936 3 3 rfl rfl 1937 rfl ?_
  refine sx_lcallW C hNC hB1 hA hd12 hd2 (st := []) dL_law_1937 (c_L_place hf (by omega) h) wi_L_place wn_L_place wt_L_place lk_L_215 ⟨by decide, by decide, (show _ = some 5 from by decide +kernel)⟩ rfl rfl ⟨⟨(Nat.le_of_ble_eq_true rfl), (Nat.le_of_ble_eq_true rfl)⟩, (by show cl + 3 ≤ 601024; omega), (by show sl + 18 ≤ 7293034; omega)⟩ (Nat.le_of_ble_eq_true rfl) 1940 rfl (fun k f1 o1 h => ?_)
  refine sx_istore C dL_law_1940 [(5, .int k), (0, .ref bs), (1, .ref (b1 + 0)), (2, .ref (b2 + 0)), (3, .ref bo), (4, .int i)] (by decide) rfl 1942 rfl ?_
  refine sx_aload_n C dL_law_1942 2 3 rfl rfl 1943 rfl ?_
  refine sx_aload_n C dL_law_1943 0 1 rfl rfl 1944 rfl ?_
  refine sx_iload C dL_law_1944 5 rfl 1946 rfl ?_
  refine sx_iconst C dL_law_1946 1 (by decide) 1947 rfl ?_
  refine sx_iadd C dL_law_1947 1948 rfl ?_
  refine sx_sld C hX hbl hbA hv1 dL_law_1948 1949 rfl ?_
  refine sx_aload_n C dL_law_1949 0 1 rfl rfl 1950 rfl ?_
  refine sx_iload C dL_law_1950 5 rfl 1952 rfl ?_
  refine sx_iconst C dL_law_1952 2 (by decide) 1953 rfl ?_
  refine sx_iadd C dL_law_1953 1954 rfl ?_
  refine sx_sld C hX hbl hbA hv2 dL_law_1954 1955 rfl ?_
  refine sx_aload_n C dL_law_1955 0 1 rfl rfl 1956 rfl ?_
  refine sx_iload C dL_law_1956 5 rfl 1958 rfl ?_
  refine sx_iconst C dL_law_1958 3 (by decide) 1959 rfl ?_
  refine sx_iadd C dL_law_1959 1960 rfl ?_
  refine sx_sld C hX hbl hbA hv3 dL_law_1960 1961 rfl ?_
  refine sx_lcall2 C hB2 hd12 hd2 (st := []) dL_law_1961 (c_X7_place hf h) mi_X7_place lk_L_217 mn_X7_place ms_X7_place (by decide) lyM_0 rfl rfl rfl rfl ⟨⟨(Nat.le_of_ble_eq_true rfl), (Nat.le_of_ble_eq_true rfl)⟩, (by show cl + 3 + 0 ≤ 601024; omega), (by show sl + 18 + 0 ≤ 7293034; omega)⟩ (Nat.le_of_ble_eq_true rfl) 1964 rfl (fun v g1 h => ?_)
  obtain ⟨r, rfl, h⟩ := h
  refine sx_istore C dL_law_1964 [(6, .int r), (5, .int k), (0, .ref bs), (1, .ref (b1 + 0)), (2, .ref (b2 + 0)), (3, .ref bo), (4, .int i)] (by decide) rfl 1966 rfl ?_
  refine sx_aload_n C dL_law_1966 2 4 rfl rfl 1967 rfl ?_
  refine sx_lcall2 C hB2 hd12 hd2 (st := []) dL_law_1967 (c_X7_thrown hf h) mi_X7_thrown lk_L_129 mn_X7_thrown ms_X7_thrown (by decide) lyM_0 rfl rfl rfl rfl ⟨⟨(Nat.le_of_ble_eq_true rfl), (Nat.le_of_ble_eq_true rfl)⟩, (by show cl + 3 + 0 ≤ 601024; omega), (by show sl + 18 + 0 ≤ 7293034; omega)⟩ (Nat.le_of_ble_eq_true rfl) 1970 rfl (fun v g2 h => ?_)
  obtain ⟨⟨t, rfl, h⟩, rfl⟩ := h
  refine sx_iload C dL_law_1970 1 rfl 1972 rfl ?_
  refine sx_icmp_eq C dL_law_1972 1977 1975 (by decide) rfl (fun c1 => ?_) (fun c1 => absurd h.1 c1)
  refine sx_iload C dL_law_1977 1 rfl 1979 rfl ?_
  refine sx_if_ne C dL_law_1979 1994 1982 (by decide) rfl (fun c2 => ?_) (fun c2 => ?_)
  · refine sx_goto C dL_law_1994 2395 (by decide) ?_
    refine sx_widen (k := cl + 9) (n := sl + 54) (by omega) (by omega) ?_
    exact sx_sub [2, 3, 4, 5, 6] rfl (hend _ _ _ h.2.2)
  · refine sx_aload_n C dL_law_1982 3 5 rfl rfl 1983 rfl ?_
    refine sx_iconst C dL_law_1983 0 (by decide) 1984 rfl ?_
    refine sx_lald C dL_law_1984 1985 rfl ?_
    refine sx_iload C dL_law_1985 0 rfl 1987 rfl ?_
    refine sx_i2l C dL_law_1987 1988 rfl ?_
    refine sx_lcmp C dL_law_1988 1989 rfl ?_
    refine sx_if_eq C dL_law_1989 1994 1992 (by decide) rfl (fun c3 => ?_) (fun c3 => absurd ((lg_cmp_eq _ _).mpr (h.2.1 c2)) c3)
    refine sx_goto C dL_law_1994 2395 (by decide) ?_
    refine sx_widen (k := cl + 9) (n := sl + 54) (by omega) (by omega) ?_
    exact sx_sub [2, 3, 4, 5, 6] rfl (hend _ _ _ h.2.2)
set_option maxRecDepth 100000 in
set_option maxHeartbeats 4000000 in
theorem case_copies {p : Program} {l : Launch} {e : Env} {s : State} {m : MethodId} {below : List Frame} {meth : Method} {c : Code} {D : va_G} {G : sx_G} {A : Nat → Prop} {b1 b2 bo bs L cl sl : Nat} {xs : Nat → Int32} {Q : State → Prop} {f g : sx_F} {o : Nat → Int64} {i : Int32} {K : sx_F → sx_F → Prop} (hf : l.stackTraces = false) (C : sx_Cx p l s m #[.ref bs] meth c D G A cL_law 7 RL) (hNC : sx_NC s) (hB1 : ∀ k, k < 129 → A (b1 + k)) (hB2 : ∀ k, k < 26 → A (b2 + k)) (hA : A bo) (hd12 : b1 + 129 ≤ b2) (hd2 : b2 + 26 ≤ bo) (hX : va_X bs L xs s s.heap) (hbl : bs < s.heap.size) (hbA : ¬ A bs) (hcl : cl + 9 ≤ 601024 ∧ sl + 54 ≤ 7293034) (hend : ∀ (f1 g1 : sx_F) (o1 : Nat → Int64), K f1 g1 → sx_J (sx_wl D G b1 129 lyX b2 26 lyM bo) p l e room_1 s m #[.ref bs] below meth c A 7 (cl + 9) (sl + 54) Q (f1, g1, o1) 2395 [(0, .ref bs), (1, .ref (b1 + 0)), (2, .ref (b2 + 0)), (3, .ref bo), (4, .int i)] []) (h : P_case_copies f g K) : sx_J (sx_wl D G b1 129 lyX b2 26 lyM bo) p l e room_1 s m #[.ref bs] below meth c A 7 (cl) (sl) Q (f, g, o) 1997 [(0, .ref bs), (1, .ref (b1 + 0)), (2, .ref (b2 + 0)), (3, .ref bo), (4, .int i)] [] := by
  unfold P_case_copies at h
  refine sx_aload_n C dL_law_1997 1 1 rfl rfl 1998 rfl ?_
  refine sx_lcall1 C hB1 hd12 hd2 (st := []) dL_law_1998 (c_X6_copies hf h) mi_X6_copies lk_L_218 mn_X6_copies ms_X6_copies (by decide) lyX_0 rfl rfl rfl rfl ⟨⟨(Nat.le_of_ble_eq_true rfl), (Nat.le_of_ble_eq_true rfl)⟩, (by show cl + 0 ≤ 601024; omega), (by show sl + 0 ≤ 7293034; omega)⟩ (Nat.le_of_ble_eq_true rfl) 2001 rfl (fun v f1 h => ?_)
  obtain ⟨⟨r, rfl, h⟩, rfl⟩ := h
  refine sx_aload_n C dL_law_2001 2 2 rfl rfl 2002 rfl ?_
  refine sx_lcall2 C hB2 hd12 hd2 (st := [.int r]) dL_law_2002 (c_X7_copies hf h) mi_X7_copies lk_L_221 mn_X7_copies ms_X7_copies (by decide) lyM_0 rfl rfl rfl rfl ⟨⟨(Nat.le_of_ble_eq_true rfl), (Nat.le_of_ble_eq_true rfl)⟩, (by show cl + 0 + 0 ≤ 601024; omega), (by show sl + 0 + 0 ≤ 7293034; omega)⟩ (Nat.le_of_ble_eq_true rfl) 2005 rfl (fun v g1 h => ?_)
  obtain ⟨b, rfl, h⟩ := h
  refine sx_icmp_eq C dL_law_2005 2395 2008 (by decide) rfl (fun c1 => ?_) (fun c1 => absurd h.1 c1)
  refine sx_widen (k := cl + 9) (n := sl + 54) (by omega) (by omega) ?_
  exact hend _ _ _ h.2
set_option maxRecDepth 100000 in
set_option maxHeartbeats 4000000 in
theorem case_deskOf {p : Program} {l : Launch} {e : Env} {s : State} {m : MethodId} {below : List Frame} {meth : Method} {c : Code} {D : va_G} {G : sx_G} {A : Nat → Prop} {b1 b2 bo bs L cl sl : Nat} {xs : Nat → Int32} {Q : State → Prop} {f g : sx_F} {o : Nat → Int64} {i : Int32} {K : sx_F → sx_F → Prop} (hf : l.stackTraces = false) (C : sx_Cx p l s m #[.ref bs] meth c D G A cL_law 7 RL) (hNC : sx_NC s) (hB1 : ∀ k, k < 129 → A (b1 + k)) (hB2 : ∀ k, k < 26 → A (b2 + k)) (hA : A bo) (hd12 : b1 + 129 ≤ b2) (hd2 : b2 + 26 ≤ bo) (hX : va_X bs L xs s s.heap) (hbl : bs < s.heap.size) (hbA : ¬ A bs) (hcl : cl + 9 ≤ 601024 ∧ sl + 54 ≤ 7293034) (hv1 : vp_in (i + 1) L) (hend : ∀ (f1 g1 : sx_F) (o1 : Nat → Int64), K f1 g1 → sx_J (sx_wl D G b1 129 lyX b2 26 lyM bo) p l e room_1 s m #[.ref bs] below meth c A 7 (cl + 9) (sl + 54) Q (f1, g1, o1) 2395 [(0, .ref bs), (1, .ref (b1 + 0)), (2, .ref (b2 + 0)), (3, .ref bo), (4, .int i)] []) (h : P_case_deskOf f g o (xs (i + 1).toNatClampNeg) K) : sx_J (sx_wl D G b1 129 lyX b2 26 lyM bo) p l e room_1 s m #[.ref bs] below meth c A 7 (cl) (sl) Q (f, g, o) 2010 [(0, .ref bs), (1, .ref (b1 + 0)), (2, .ref (b2 + 0)), (3, .ref bo), (4, .int i)] [] := by
  unfold P_case_deskOf at h
  refine sx_aload_n C dL_law_2010 1 1 rfl rfl 2011 rfl ?_
  refine sx_aload_n C dL_law_2011 0 0 rfl rfl 2012 rfl ?_
  refine sx_iload C dL_law_2012 4 rfl 2014 rfl ?_
  refine sx_iconst C dL_law_2014 1 (by decide) 2015 rfl ?_
  refine sx_iadd C dL_law_2015 2016 rfl ?_
  refine sx_sld C hX hbl hbA hv1 dL_law_2016 2017 rfl ?_
  refine sx_aload_n C dL_law_2017 3 3 rfl rfl 2018 rfl ?_
  refine sx_lcallW C hNC hB1 hA hd12 hd2 (st := []) dL_law_2018 (c_L_deskOf hf (by omega) h) wi_L_deskOf wn_L_deskOf wt_L_deskOf lk_L_222 ⟨by decide, by decide, (show _ = some 3 from by decide +kernel)⟩ rfl rfl ⟨⟨(Nat.le_of_ble_eq_true rfl), (Nat.le_of_ble_eq_true rfl)⟩, (by show cl + 1 ≤ 601024; omega), (by show sl + 6 ≤ 7293034; omega)⟩ (Nat.le_of_ble_eq_true rfl) 2021 rfl (fun k f1 o1 h => ?_)
  refine sx_istore C dL_law_2021 [(5, .int k), (0, .ref bs), (1, .ref (b1 + 0)), (2, .ref (b2 + 0)), (3, .ref bo), (4, .int i)] (by decide) rfl 2023 rfl ?_
  refine sx_aload_n C dL_law_2023 2 3 rfl rfl 2024 rfl ?_
  refine sx_aload_n C dL_law_2024 0 1 rfl rfl 2025 rfl ?_
  refine sx_iload C dL_law_2025 5 rfl 2027 rfl ?_
  refine sx_iconst C dL_law_2027 1 (by decide) 2028 rfl ?_
  refine sx_iadd C dL_law_2028 2029 rfl ?_
  refine sx_sld C hX hbl hbA hv1 dL_law_2029 2030 rfl ?_
  refine sx_lcall2 C hB2 hd12 hd2 (st := []) dL_law_2030 (c_X7_deskOf hf h) mi_X7_deskOf lk_L_224 mn_X7_deskOf ms_X7_deskOf (by decide) lyM_0 rfl rfl rfl rfl ⟨⟨(Nat.le_of_ble_eq_true rfl), (Nat.le_of_ble_eq_true rfl)⟩, (by show cl + 1 + 0 ≤ 601024; omega), (by show sl + 6 + 0 ≤ 7293034; omega)⟩ (Nat.le_of_ble_eq_true rfl) 2033 rfl (fun v g1 h => ?_)
  obtain ⟨r, rfl, h⟩ := h
  refine sx_istore C dL_law_2033 [(6, .int r), (5, .int k), (0, .ref bs), (1, .ref (b1 + 0)), (2, .ref (b2 + 0)), (3, .ref bo), (4, .int i)] (by decide) rfl 2035 rfl ?_
  refine sx_aload_n C dL_law_2035 2 4 rfl rfl 2036 rfl ?_
  refine sx_lcall2 C hB2 hd12 hd2 (st := []) dL_law_2036 (c_X7_thrown hf h) mi_X7_thrown lk_L_129 mn_X7_thrown ms_X7_thrown (by decide) lyM_0 rfl rfl rfl rfl ⟨⟨(Nat.le_of_ble_eq_true rfl), (Nat.le_of_ble_eq_true rfl)⟩, (by show cl + 1 + 0 ≤ 601024; omega), (by show sl + 6 + 0 ≤ 7293034; omega)⟩ (Nat.le_of_ble_eq_true rfl) 2039 rfl (fun v g2 h => ?_)
  obtain ⟨⟨t, rfl, h⟩, rfl⟩ := h
  refine sx_iload C dL_law_2039 1 rfl 2041 rfl ?_
  refine sx_icmp_eq C dL_law_2041 2046 2044 (by decide) rfl (fun c1 => ?_) (fun c1 => absurd h.1 c1)
  refine sx_iload C dL_law_2046 1 rfl 2048 rfl ?_
  refine sx_if_ne C dL_law_2048 2063 2051 (by decide) rfl (fun c2 => ?_) (fun c2 => ?_)
  · refine sx_goto C dL_law_2063 2395 (by decide) ?_
    refine sx_widen (k := cl + 9) (n := sl + 54) (by omega) (by omega) ?_
    exact sx_sub [2, 3, 4, 5, 6] rfl (hend _ _ _ h.2.2)
  · refine sx_aload_n C dL_law_2051 3 5 rfl rfl 2052 rfl ?_
    refine sx_iconst C dL_law_2052 0 (by decide) 2053 rfl ?_
    refine sx_lald C dL_law_2053 2054 rfl ?_
    refine sx_iload C dL_law_2054 0 rfl 2056 rfl ?_
    refine sx_i2l C dL_law_2056 2057 rfl ?_
    refine sx_lcmp C dL_law_2057 2058 rfl ?_
    refine sx_if_eq C dL_law_2058 2063 2061 (by decide) rfl (fun c3 => ?_) (fun c3 => absurd ((lg_cmp_eq _ _).mpr (h.2.1 c2)) c3)
    refine sx_goto C dL_law_2063 2395 (by decide) ?_
    refine sx_widen (k := cl + 9) (n := sl + 54) (by omega) (by omega) ?_
    exact sx_sub [2, 3, 4, 5, 6] rfl (hend _ _ _ h.2.2)
set_option maxRecDepth 100000 in
set_option maxHeartbeats 4000000 in
theorem case_has {p : Program} {l : Launch} {e : Env} {s : State} {m : MethodId} {below : List Frame} {meth : Method} {c : Code} {D : va_G} {G : sx_G} {A : Nat → Prop} {b1 b2 bo bs L cl sl : Nat} {xs : Nat → Int32} {Q : State → Prop} {f g : sx_F} {o : Nat → Int64} {i : Int32} {K : sx_F → sx_F → Prop} (hf : l.stackTraces = false) (C : sx_Cx p l s m #[.ref bs] meth c D G A cL_law 7 RL) (hNC : sx_NC s) (hB1 : ∀ k, k < 129 → A (b1 + k)) (hB2 : ∀ k, k < 26 → A (b2 + k)) (hA : A bo) (hd12 : b1 + 129 ≤ b2) (hd2 : b2 + 26 ≤ bo) (hX : va_X bs L xs s s.heap) (hbl : bs < s.heap.size) (hbA : ¬ A bs) (hcl : cl + 9 ≤ 601024 ∧ sl + 54 ≤ 7293034) (hv1 : vp_in (i + 1) L) (hv2 : vp_in (i + 2) L) (hend : ∀ (f1 g1 : sx_F) (o1 : Nat → Int64), K f1 g1 → sx_J (sx_wl D G b1 129 lyX b2 26 lyM bo) p l e room_1 s m #[.ref bs] below meth c A 7 (cl + 9) (sl + 54) Q (f1, g1, o1) 2395 [(0, .ref bs), (1, .ref (b1 + 0)), (2, .ref (b2 + 0)), (3, .ref bo), (4, .int i)] []) (h : P_case_has f g o (xs (i + 1).toNatClampNeg) (xs (i + 2).toNatClampNeg) K) : sx_J (sx_wl D G b1 129 lyX b2 26 lyM bo) p l e room_1 s m #[.ref bs] below meth c A 7 (cl) (sl) Q (f, g, o) 2066 [(0, .ref bs), (1, .ref (b1 + 0)), (2, .ref (b2 + 0)), (3, .ref bo), (4, .int i)] [] := by
  unfold P_case_has at h
  refine sx_aload_n C dL_law_2066 1 1 rfl rfl 2067 rfl ?_
  refine sx_aload_n C dL_law_2067 0 0 rfl rfl 2068 rfl ?_
  refine sx_iload C dL_law_2068 4 rfl 2070 rfl ?_
  refine sx_iconst C dL_law_2070 1 (by decide) 2071 rfl ?_
  refine sx_iadd C dL_law_2071 2072 rfl ?_
  refine sx_sld C hX hbl hbA hv1 dL_law_2072 2073 rfl ?_
  refine sx_aload_n C dL_law_2073 0 0 rfl rfl 2074 rfl ?_
  refine sx_iload C dL_law_2074 4 rfl 2076 rfl ?_
  refine sx_iconst C dL_law_2076 2 (by decide) 2077 rfl ?_
  refine sx_iadd C dL_law_2077 2078 rfl ?_
  refine sx_sld C hX hbl hbA hv2 dL_law_2078 2079 rfl ?_
  refine sx_aload_n C dL_law_2079 3 3 rfl rfl 2080 rfl ?_
  refine sx_lcallW C hNC hB1 hA hd12 hd2 (st := []) dL_law_2080 (c_L_has hf (by omega) h) wi_L_has wn_L_has wt_L_has lk_L_225 ⟨by decide, by decide, (show _ = some 4 from by decide +kernel)⟩ rfl rfl ⟨⟨(Nat.le_of_ble_eq_true rfl), (Nat.le_of_ble_eq_true rfl)⟩, (by show cl + 2 ≤ 601024; omega), (by show sl + 12 ≤ 7293034; omega)⟩ (Nat.le_of_ble_eq_true rfl) 2083 rfl (fun k f1 o1 h => ?_)
  refine sx_istore C dL_law_2083 [(5, .int k), (0, .ref bs), (1, .ref (b1 + 0)), (2, .ref (b2 + 0)), (3, .ref bo), (4, .int i)] (by decide) rfl 2085 rfl ?_
  refine sx_aload_n C dL_law_2085 2 3 rfl rfl 2086 rfl ?_
  refine sx_aload_n C dL_law_2086 0 1 rfl rfl 2087 rfl ?_
  refine sx_iload C dL_law_2087 5 rfl 2089 rfl ?_
  refine sx_iconst C dL_law_2089 1 (by decide) 2090 rfl ?_
  refine sx_iadd C dL_law_2090 2091 rfl ?_
  refine sx_sld C hX hbl hbA hv1 dL_law_2091 2092 rfl ?_
  refine sx_aload_n C dL_law_2092 0 1 rfl rfl 2093 rfl ?_
  refine sx_iload C dL_law_2093 5 rfl 2095 rfl ?_
  refine sx_iconst C dL_law_2095 2 (by decide) 2096 rfl ?_
  refine sx_iadd C dL_law_2096 2097 rfl ?_
  refine sx_sld C hX hbl hbA hv2 dL_law_2097 2098 rfl ?_
  refine sx_lcall2 C hB2 hd12 hd2 (st := []) dL_law_2098 (c_X7_has hf h) mi_X7_has lk_L_227 mn_X7_has ms_X7_has (by decide) lyM_0 rfl rfl rfl rfl ⟨⟨(Nat.le_of_ble_eq_true rfl), (Nat.le_of_ble_eq_true rfl)⟩, (by show cl + 2 + 0 ≤ 601024; omega), (by show sl + 12 + 0 ≤ 7293034; omega)⟩ (Nat.le_of_ble_eq_true rfl) 2101 rfl (fun v g1 h => ?_)
  obtain ⟨r, rfl, h⟩ := h
  refine sx_istore C dL_law_2101 [(6, .int r), (5, .int k), (0, .ref bs), (1, .ref (b1 + 0)), (2, .ref (b2 + 0)), (3, .ref bo), (4, .int i)] (by decide) rfl 2103 rfl ?_
  refine sx_aload_n C dL_law_2103 2 4 rfl rfl 2104 rfl ?_
  refine sx_lcall2 C hB2 hd12 hd2 (st := []) dL_law_2104 (c_X7_thrown hf h) mi_X7_thrown lk_L_129 mn_X7_thrown ms_X7_thrown (by decide) lyM_0 rfl rfl rfl rfl ⟨⟨(Nat.le_of_ble_eq_true rfl), (Nat.le_of_ble_eq_true rfl)⟩, (by show cl + 2 + 0 ≤ 601024; omega), (by show sl + 12 + 0 ≤ 7293034; omega)⟩ (Nat.le_of_ble_eq_true rfl) 2107 rfl (fun v g2 h => ?_)
  obtain ⟨⟨t, rfl, h⟩, rfl⟩ := h
  refine sx_iload C dL_law_2107 1 rfl 2109 rfl ?_
  refine sx_icmp_eq C dL_law_2109 2114 2112 (by decide) rfl (fun c1 => ?_) (fun c1 => absurd h.1 c1)
  refine sx_iload C dL_law_2114 1 rfl 2116 rfl ?_
  refine sx_if_ne C dL_law_2116 2131 2119 (by decide) rfl (fun c2 => ?_) (fun c2 => ?_)
  · refine sx_goto C dL_law_2131 2395 (by decide) ?_
    refine sx_widen (k := cl + 9) (n := sl + 54) (by omega) (by omega) ?_
    exact sx_sub [2, 3, 4, 5, 6] rfl (hend _ _ _ h.2.2)
  · refine sx_aload_n C dL_law_2119 3 5 rfl rfl 2120 rfl ?_
    refine sx_iconst C dL_law_2120 0 (by decide) 2121 rfl ?_
    refine sx_lald C dL_law_2121 2122 rfl ?_
    refine sx_iload C dL_law_2122 0 rfl 2124 rfl ?_
    refine sx_i2l C dL_law_2124 2125 rfl ?_
    refine sx_lcmp C dL_law_2125 2126 rfl ?_
    refine sx_if_eq C dL_law_2126 2131 2129 (by decide) rfl (fun c3 => ?_) (fun c3 => absurd ((lg_cmp_eq _ _).mpr (h.2.1 c2)) c3)
    refine sx_goto C dL_law_2131 2395 (by decide) ?_
    refine sx_widen (k := cl + 9) (n := sl + 54) (by omega) (by omega) ?_
    exact sx_sub [2, 3, 4, 5, 6] rfl (hend _ _ _ h.2.2)
set_option maxRecDepth 100000 in
set_option maxHeartbeats 4000000 in
theorem case_owed {p : Program} {l : Launch} {e : Env} {s : State} {m : MethodId} {below : List Frame} {meth : Method} {c : Code} {D : va_G} {G : sx_G} {A : Nat → Prop} {b1 b2 bo bs L cl sl : Nat} {xs : Nat → Int32} {Q : State → Prop} {f g : sx_F} {o : Nat → Int64} {i : Int32} {K : sx_F → sx_F → Prop} (hf : l.stackTraces = false) (C : sx_Cx p l s m #[.ref bs] meth c D G A cL_law 7 RL) (hNC : sx_NC s) (hB1 : ∀ k, k < 129 → A (b1 + k)) (hB2 : ∀ k, k < 26 → A (b2 + k)) (hA : A bo) (hd12 : b1 + 129 ≤ b2) (hd2 : b2 + 26 ≤ bo) (hX : va_X bs L xs s s.heap) (hbl : bs < s.heap.size) (hbA : ¬ A bs) (hcl : cl + 9 ≤ 601024 ∧ sl + 54 ≤ 7293034) (hv1 : vp_in (i + 1) L) (hend : ∀ (f1 g1 : sx_F) (o1 : Nat → Int64), K f1 g1 → sx_J (sx_wl D G b1 129 lyX b2 26 lyM bo) p l e room_1 s m #[.ref bs] below meth c A 7 (cl + 9) (sl + 54) Q (f1, g1, o1) 2395 [(0, .ref bs), (1, .ref (b1 + 0)), (2, .ref (b2 + 0)), (3, .ref bo), (4, .int i)] []) (h : P_case_owed f g o (xs (i + 1).toNatClampNeg) K) : sx_J (sx_wl D G b1 129 lyX b2 26 lyM bo) p l e room_1 s m #[.ref bs] below meth c A 7 (cl) (sl) Q (f, g, o) 2134 [(0, .ref bs), (1, .ref (b1 + 0)), (2, .ref (b2 + 0)), (3, .ref bo), (4, .int i)] [] := by
  unfold P_case_owed at h
  refine sx_aload_n C dL_law_2134 1 1 rfl rfl 2135 rfl ?_
  refine sx_aload_n C dL_law_2135 0 0 rfl rfl 2136 rfl ?_
  refine sx_iload C dL_law_2136 4 rfl 2138 rfl ?_
  refine sx_iconst C dL_law_2138 1 (by decide) 2139 rfl ?_
  refine sx_iadd C dL_law_2139 2140 rfl ?_
  refine sx_sld C hX hbl hbA hv1 dL_law_2140 2141 rfl ?_
  refine sx_aload_n C dL_law_2141 3 3 rfl rfl 2142 rfl ?_
  refine sx_lcallW C hNC hB1 hA hd12 hd2 (st := []) dL_law_2142 (c_L_owed hf (by omega) h) wi_L_owed wn_L_owed wt_L_owed lk_L_228 ⟨by decide, by decide, (show _ = some 3 from by decide +kernel)⟩ rfl rfl ⟨⟨(Nat.le_of_ble_eq_true rfl), (Nat.le_of_ble_eq_true rfl)⟩, (by show cl + 1 ≤ 601024; omega), (by show sl + 6 ≤ 7293034; omega)⟩ (Nat.le_of_ble_eq_true rfl) 2145 rfl (fun k f1 o1 h => ?_)
  refine sx_istore C dL_law_2145 [(5, .int k), (0, .ref bs), (1, .ref (b1 + 0)), (2, .ref (b2 + 0)), (3, .ref bo), (4, .int i)] (by decide) rfl 2147 rfl ?_
  refine sx_aload_n C dL_law_2147 2 3 rfl rfl 2148 rfl ?_
  refine sx_aload_n C dL_law_2148 0 1 rfl rfl 2149 rfl ?_
  refine sx_iload C dL_law_2149 5 rfl 2151 rfl ?_
  refine sx_iconst C dL_law_2151 1 (by decide) 2152 rfl ?_
  refine sx_iadd C dL_law_2152 2153 rfl ?_
  refine sx_sld C hX hbl hbA hv1 dL_law_2153 2154 rfl ?_
  refine sx_lcall2 C hB2 hd12 hd2 (st := []) dL_law_2154 (c_X7_owed hf h) mi_X7_owed lk_L_230 mn_X7_owed ms_X7_owed (by decide) lyM_0 rfl rfl rfl rfl ⟨⟨(Nat.le_of_ble_eq_true rfl), (Nat.le_of_ble_eq_true rfl)⟩, (by show cl + 1 + 0 ≤ 601024; omega), (by show sl + 6 + 0 ≤ 7293034; omega)⟩ (Nat.le_of_ble_eq_true rfl) 2157 rfl (fun v g1 h => ?_)
  obtain ⟨r, rfl, h⟩ := h
  refine sx_istore C dL_law_2157 [(6, .int r), (5, .int k), (0, .ref bs), (1, .ref (b1 + 0)), (2, .ref (b2 + 0)), (3, .ref bo), (4, .int i)] (by decide) rfl 2159 rfl ?_
  refine sx_aload_n C dL_law_2159 2 4 rfl rfl 2160 rfl ?_
  refine sx_lcall2 C hB2 hd12 hd2 (st := []) dL_law_2160 (c_X7_thrown hf h) mi_X7_thrown lk_L_129 mn_X7_thrown ms_X7_thrown (by decide) lyM_0 rfl rfl rfl rfl ⟨⟨(Nat.le_of_ble_eq_true rfl), (Nat.le_of_ble_eq_true rfl)⟩, (by show cl + 1 + 0 ≤ 601024; omega), (by show sl + 6 + 0 ≤ 7293034; omega)⟩ (Nat.le_of_ble_eq_true rfl) 2163 rfl (fun v g2 h => ?_)
  obtain ⟨⟨t, rfl, h⟩, rfl⟩ := h
  refine sx_iload C dL_law_2163 1 rfl 2165 rfl ?_
  refine sx_icmp_eq C dL_law_2165 2170 2168 (by decide) rfl (fun c1 => ?_) (fun c1 => absurd h.1 c1)
  refine sx_iload C dL_law_2170 1 rfl 2172 rfl ?_
  refine sx_if_ne C dL_law_2172 2187 2175 (by decide) rfl (fun c2 => ?_) (fun c2 => ?_)
  · refine sx_goto C dL_law_2187 2395 (by decide) ?_
    refine sx_widen (k := cl + 9) (n := sl + 54) (by omega) (by omega) ?_
    exact sx_sub [2, 3, 4, 5, 6] rfl (hend _ _ _ h.2.2)
  · refine sx_aload_n C dL_law_2175 3 5 rfl rfl 2176 rfl ?_
    refine sx_iconst C dL_law_2176 0 (by decide) 2177 rfl ?_
    refine sx_lald C dL_law_2177 2178 rfl ?_
    refine sx_iload C dL_law_2178 0 rfl 2180 rfl ?_
    refine sx_i2l C dL_law_2180 2181 rfl ?_
    refine sx_lcmp C dL_law_2181 2182 rfl ?_
    refine sx_if_eq C dL_law_2182 2187 2185 (by decide) rfl (fun c3 => ?_) (fun c3 => absurd ((lg_cmp_eq _ _).mpr (h.2.1 c2)) c3)
    refine sx_goto C dL_law_2187 2395 (by decide) ?_
    refine sx_widen (k := cl + 9) (n := sl + 54) (by omega) (by omega) ?_
    exact sx_sub [2, 3, 4, 5, 6] rfl (hend _ _ _ h.2.2)
set_option maxRecDepth 100000 in
set_option maxHeartbeats 4000000 in
theorem case_markOf {p : Program} {l : Launch} {e : Env} {s : State} {m : MethodId} {below : List Frame} {meth : Method} {c : Code} {D : va_G} {G : sx_G} {A : Nat → Prop} {b1 b2 bo bs L cl sl : Nat} {xs : Nat → Int32} {Q : State → Prop} {f g : sx_F} {o : Nat → Int64} {i : Int32} {K : sx_F → sx_F → Prop} (hf : l.stackTraces = false) (C : sx_Cx p l s m #[.ref bs] meth c D G A cL_law 7 RL) (hNC : sx_NC s) (hB1 : ∀ k, k < 129 → A (b1 + k)) (hB2 : ∀ k, k < 26 → A (b2 + k)) (hA : A bo) (hd12 : b1 + 129 ≤ b2) (hd2 : b2 + 26 ≤ bo) (hX : va_X bs L xs s s.heap) (hbl : bs < s.heap.size) (hbA : ¬ A bs) (hcl : cl + 9 ≤ 601024 ∧ sl + 54 ≤ 7293034) (hv1 : vp_in (i + 1) L) (hv2 : vp_in (i + 2) L) (hv3 : vp_in (i + 3) L) (hend : ∀ (f1 g1 : sx_F) (o1 : Nat → Int64), K f1 g1 → sx_J (sx_wl D G b1 129 lyX b2 26 lyM bo) p l e room_1 s m #[.ref bs] below meth c A 7 (cl + 9) (sl + 54) Q (f1, g1, o1) 2395 [(0, .ref bs), (1, .ref (b1 + 0)), (2, .ref (b2 + 0)), (3, .ref bo), (4, .int i)] []) (h : P_case_markOf f g o (xs (i + 1).toNatClampNeg) (xs (i + 2).toNatClampNeg) (xs (i + 3).toNatClampNeg) K) : sx_J (sx_wl D G b1 129 lyX b2 26 lyM bo) p l e room_1 s m #[.ref bs] below meth c A 7 (cl) (sl) Q (f, g, o) 2190 [(0, .ref bs), (1, .ref (b1 + 0)), (2, .ref (b2 + 0)), (3, .ref bo), (4, .int i)] [] := by
  unfold P_case_markOf at h
  refine sx_aload_n C dL_law_2190 1 1 rfl rfl 2191 rfl ?_
  refine sx_aload_n C dL_law_2191 0 0 rfl rfl 2192 rfl ?_
  refine sx_iload C dL_law_2192 4 rfl 2194 rfl ?_
  refine sx_iconst C dL_law_2194 1 (by decide) 2195 rfl ?_
  refine sx_iadd C dL_law_2195 2196 rfl ?_
  refine sx_sld C hX hbl hbA hv1 dL_law_2196 2197 rfl ?_
  refine sx_aload_n C dL_law_2197 0 0 rfl rfl 2198 rfl ?_
  refine sx_iload C dL_law_2198 4 rfl 2200 rfl ?_
  refine sx_iconst C dL_law_2200 2 (by decide) 2201 rfl ?_
  refine sx_iadd C dL_law_2201 2202 rfl ?_
  refine sx_sld C hX hbl hbA hv2 dL_law_2202 2203 rfl ?_
  refine sx_aload_n C dL_law_2203 0 0 rfl rfl 2204 rfl ?_
  refine sx_iload C dL_law_2204 4 rfl 2206 rfl ?_
  refine sx_iconst C dL_law_2206 3 (by decide) 2207 rfl ?_
  refine sx_iadd C dL_law_2207 2208 rfl ?_
  refine sx_sld C hX hbl hbA hv3 dL_law_2208 2209 rfl ?_
  refine sx_aload_n C dL_law_2209 3 3 rfl rfl 2210 rfl ?_
  refine sx_lcallW C hNC hB1 hA hd12 hd2 (st := []) dL_law_2210 (c_L_markOf hf (by omega) h) wi_L_markOf wn_L_markOf wt_L_markOf lk_L_231 ⟨by decide, by decide, (show _ = some 5 from by decide +kernel)⟩ rfl rfl ⟨⟨(Nat.le_of_ble_eq_true rfl), (Nat.le_of_ble_eq_true rfl)⟩, (by show cl + 3 ≤ 601024; omega), (by show sl + 18 ≤ 7293034; omega)⟩ (Nat.le_of_ble_eq_true rfl) 2213 rfl (fun k f1 o1 h => ?_)
  refine sx_istore C dL_law_2213 [(5, .int k), (0, .ref bs), (1, .ref (b1 + 0)), (2, .ref (b2 + 0)), (3, .ref bo), (4, .int i)] (by decide) rfl 2215 rfl ?_
  refine sx_aload_n C dL_law_2215 2 3 rfl rfl 2216 rfl ?_
  refine sx_aload_n C dL_law_2216 0 1 rfl rfl 2217 rfl ?_
  refine sx_iload C dL_law_2217 5 rfl 2219 rfl ?_
  refine sx_iconst C dL_law_2219 1 (by decide) 2220 rfl ?_
  refine sx_iadd C dL_law_2220 2221 rfl ?_
  refine sx_sld C hX hbl hbA hv1 dL_law_2221 2222 rfl ?_
  refine sx_aload_n C dL_law_2222 0 1 rfl rfl 2223 rfl ?_
  refine sx_iload C dL_law_2223 5 rfl 2225 rfl ?_
  refine sx_iconst C dL_law_2225 2 (by decide) 2226 rfl ?_
  refine sx_iadd C dL_law_2226 2227 rfl ?_
  refine sx_sld C hX hbl hbA hv2 dL_law_2227 2228 rfl ?_
  refine sx_aload_n C dL_law_2228 0 1 rfl rfl 2229 rfl ?_
  refine sx_iload C dL_law_2229 5 rfl 2231 rfl ?_
  refine sx_iconst C dL_law_2231 3 (by decide) 2232 rfl ?_
  refine sx_iadd C dL_law_2232 2233 rfl ?_
  refine sx_sld C hX hbl hbA hv3 dL_law_2233 2234 rfl ?_
  refine sx_lcall2 C hB2 hd12 hd2 (st := []) dL_law_2234 (c_X7_markOf hf h) mi_X7_markOf lk_L_233 mn_X7_markOf ms_X7_markOf (by decide) lyM_0 rfl rfl rfl rfl ⟨⟨(Nat.le_of_ble_eq_true rfl), (Nat.le_of_ble_eq_true rfl)⟩, (by show cl + 3 + 0 ≤ 601024; omega), (by show sl + 18 + 0 ≤ 7293034; omega)⟩ (Nat.le_of_ble_eq_true rfl) 2237 rfl (fun v g1 h => ?_)
  obtain ⟨r, rfl, h⟩ := h
  refine sx_istore C dL_law_2237 [(6, .int r), (5, .int k), (0, .ref bs), (1, .ref (b1 + 0)), (2, .ref (b2 + 0)), (3, .ref bo), (4, .int i)] (by decide) rfl 2239 rfl ?_
  refine sx_aload_n C dL_law_2239 2 4 rfl rfl 2240 rfl ?_
  refine sx_lcall2 C hB2 hd12 hd2 (st := []) dL_law_2240 (c_X7_thrown hf h) mi_X7_thrown lk_L_129 mn_X7_thrown ms_X7_thrown (by decide) lyM_0 rfl rfl rfl rfl ⟨⟨(Nat.le_of_ble_eq_true rfl), (Nat.le_of_ble_eq_true rfl)⟩, (by show cl + 3 + 0 ≤ 601024; omega), (by show sl + 18 + 0 ≤ 7293034; omega)⟩ (Nat.le_of_ble_eq_true rfl) 2243 rfl (fun v g2 h => ?_)
  obtain ⟨⟨t, rfl, h⟩, rfl⟩ := h
  refine sx_iload C dL_law_2243 1 rfl 2245 rfl ?_
  refine sx_icmp_eq C dL_law_2245 2250 2248 (by decide) rfl (fun c1 => ?_) (fun c1 => absurd h.1 c1)
  refine sx_iload C dL_law_2250 1 rfl 2252 rfl ?_
  refine sx_if_ne C dL_law_2252 2267 2255 (by decide) rfl (fun c2 => ?_) (fun c2 => ?_)
  · refine sx_goto C dL_law_2267 2395 (by decide) ?_
    refine sx_widen (k := cl + 9) (n := sl + 54) (by omega) (by omega) ?_
    exact sx_sub [2, 3, 4, 5, 6] rfl (hend _ _ _ h.2.2)
  · refine sx_aload_n C dL_law_2255 3 5 rfl rfl 2256 rfl ?_
    refine sx_iconst C dL_law_2256 0 (by decide) 2257 rfl ?_
    refine sx_lald C dL_law_2257 2258 rfl ?_
    refine sx_iload C dL_law_2258 0 rfl 2260 rfl ?_
    refine sx_i2l C dL_law_2260 2261 rfl ?_
    refine sx_lcmp C dL_law_2261 2262 rfl ?_
    refine sx_if_eq C dL_law_2262 2267 2265 (by decide) rfl (fun c3 => ?_) (fun c3 => absurd ((lg_cmp_eq _ _).mpr (h.2.1 c2)) c3)
    refine sx_goto C dL_law_2267 2395 (by decide) ?_
    refine sx_widen (k := cl + 9) (n := sl + 54) (by omega) (by omega) ?_
    exact sx_sub [2, 3, 4, 5, 6] rfl (hend _ _ _ h.2.2)
set_option maxRecDepth 100000 in
set_option maxHeartbeats 4000000 in
theorem case_oldMarks {p : Program} {l : Launch} {e : Env} {s : State} {m : MethodId} {below : List Frame} {meth : Method} {c : Code} {D : va_G} {G : sx_G} {A : Nat → Prop} {b1 b2 bo bs L cl sl : Nat} {xs : Nat → Int32} {Q : State → Prop} {f g : sx_F} {o : Nat → Int64} {i : Int32} {K : sx_F → sx_F → Prop} (hf : l.stackTraces = false) (C : sx_Cx p l s m #[.ref bs] meth c D G A cL_law 7 RL) (hNC : sx_NC s) (hB1 : ∀ k, k < 129 → A (b1 + k)) (hB2 : ∀ k, k < 26 → A (b2 + k)) (hA : A bo) (hd12 : b1 + 129 ≤ b2) (hd2 : b2 + 26 ≤ bo) (hX : va_X bs L xs s s.heap) (hbl : bs < s.heap.size) (hbA : ¬ A bs) (hcl : cl + 9 ≤ 601024 ∧ sl + 54 ≤ 7293034) (hv1 : vp_in (i + 1) L) (hend : ∀ (f1 g1 : sx_F) (o1 : Nat → Int64), K f1 g1 → sx_J (sx_wl D G b1 129 lyX b2 26 lyM bo) p l e room_1 s m #[.ref bs] below meth c A 7 (cl + 9) (sl + 54) Q (f1, g1, o1) 2395 [(0, .ref bs), (1, .ref (b1 + 0)), (2, .ref (b2 + 0)), (3, .ref bo), (4, .int i)] []) (h : P_case_oldMarks f g o (xs (i + 1).toNatClampNeg) K) : sx_J (sx_wl D G b1 129 lyX b2 26 lyM bo) p l e room_1 s m #[.ref bs] below meth c A 7 (cl) (sl) Q (f, g, o) 2270 [(0, .ref bs), (1, .ref (b1 + 0)), (2, .ref (b2 + 0)), (3, .ref bo), (4, .int i)] [] := by
  unfold P_case_oldMarks at h
  refine sx_aload_n C dL_law_2270 1 1 rfl rfl 2271 rfl ?_
  refine sx_aload_n C dL_law_2271 0 0 rfl rfl 2272 rfl ?_
  refine sx_iload C dL_law_2272 4 rfl 2274 rfl ?_
  refine sx_iconst C dL_law_2274 1 (by decide) 2275 rfl ?_
  refine sx_iadd C dL_law_2275 2276 rfl ?_
  refine sx_sld C hX hbl hbA hv1 dL_law_2276 2277 rfl ?_
  refine sx_aload_n C dL_law_2277 3 3 rfl rfl 2278 rfl ?_
  refine sx_lcallW C hNC hB1 hA hd12 hd2 (st := []) dL_law_2278 (c_L_oldMarks hf (by omega) h) wi_L_oldMarks wn_L_oldMarks wt_L_oldMarks lk_L_234 ⟨by decide, by decide, (show _ = some 3 from by decide +kernel)⟩ rfl rfl ⟨⟨(Nat.le_of_ble_eq_true rfl), (Nat.le_of_ble_eq_true rfl)⟩, (by show cl + 1 ≤ 601024; omega), (by show sl + 6 ≤ 7293034; omega)⟩ (Nat.le_of_ble_eq_true rfl) 2281 rfl (fun k f1 o1 h => ?_)
  refine sx_istore C dL_law_2281 [(5, .int k), (0, .ref bs), (1, .ref (b1 + 0)), (2, .ref (b2 + 0)), (3, .ref bo), (4, .int i)] (by decide) rfl 2283 rfl ?_
  refine sx_aload_n C dL_law_2283 2 3 rfl rfl 2284 rfl ?_
  refine sx_aload_n C dL_law_2284 0 1 rfl rfl 2285 rfl ?_
  refine sx_iload C dL_law_2285 5 rfl 2287 rfl ?_
  refine sx_iconst C dL_law_2287 1 (by decide) 2288 rfl ?_
  refine sx_iadd C dL_law_2288 2289 rfl ?_
  refine sx_sld C hX hbl hbA hv1 dL_law_2289 2290 rfl ?_
  refine sx_lcall2 C hB2 hd12 hd2 (st := []) dL_law_2290 (c_X7_oldMarks hf h) mi_X7_oldMarks lk_L_236 mn_X7_oldMarks ms_X7_oldMarks (by decide) lyM_0 rfl rfl rfl rfl ⟨⟨(Nat.le_of_ble_eq_true rfl), (Nat.le_of_ble_eq_true rfl)⟩, (by show cl + 1 + 0 ≤ 601024; omega), (by show sl + 6 + 0 ≤ 7293034; omega)⟩ (Nat.le_of_ble_eq_true rfl) 2293 rfl (fun v g1 h => ?_)
  obtain ⟨r, rfl, h⟩ := h
  refine sx_istore C dL_law_2293 [(6, .int r), (5, .int k), (0, .ref bs), (1, .ref (b1 + 0)), (2, .ref (b2 + 0)), (3, .ref bo), (4, .int i)] (by decide) rfl 2295 rfl ?_
  refine sx_aload_n C dL_law_2295 2 4 rfl rfl 2296 rfl ?_
  refine sx_lcall2 C hB2 hd12 hd2 (st := []) dL_law_2296 (c_X7_thrown hf h) mi_X7_thrown lk_L_129 mn_X7_thrown ms_X7_thrown (by decide) lyM_0 rfl rfl rfl rfl ⟨⟨(Nat.le_of_ble_eq_true rfl), (Nat.le_of_ble_eq_true rfl)⟩, (by show cl + 1 + 0 ≤ 601024; omega), (by show sl + 6 + 0 ≤ 7293034; omega)⟩ (Nat.le_of_ble_eq_true rfl) 2299 rfl (fun v g2 h => ?_)
  obtain ⟨⟨t, rfl, h⟩, rfl⟩ := h
  refine sx_iload C dL_law_2299 1 rfl 2301 rfl ?_
  refine sx_icmp_eq C dL_law_2301 2306 2304 (by decide) rfl (fun c1 => ?_) (fun c1 => absurd h.1 c1)
  refine sx_iload C dL_law_2306 1 rfl 2308 rfl ?_
  refine sx_if_ne C dL_law_2308 2323 2311 (by decide) rfl (fun c2 => ?_) (fun c2 => ?_)
  · refine sx_goto C dL_law_2323 2395 (by decide) ?_
    refine sx_widen (k := cl + 9) (n := sl + 54) (by omega) (by omega) ?_
    exact sx_sub [2, 3, 4, 5, 6] rfl (hend _ _ _ h.2.2)
  · refine sx_aload_n C dL_law_2311 3 5 rfl rfl 2312 rfl ?_
    refine sx_iconst C dL_law_2312 0 (by decide) 2313 rfl ?_
    refine sx_lald C dL_law_2313 2314 rfl ?_
    refine sx_iload C dL_law_2314 0 rfl 2316 rfl ?_
    refine sx_i2l C dL_law_2316 2317 rfl ?_
    refine sx_lcmp C dL_law_2317 2318 rfl ?_
    refine sx_if_eq C dL_law_2318 2323 2321 (by decide) rfl (fun c3 => ?_) (fun c3 => absurd ((lg_cmp_eq _ _).mpr (h.2.1 c2)) c3)
    refine sx_goto C dL_law_2323 2395 (by decide) ?_
    refine sx_widen (k := cl + 9) (n := sl + 54) (by omega) (by omega) ?_
    exact sx_sub [2, 3, 4, 5, 6] rfl (hend _ _ _ h.2.2)
set_option maxRecDepth 100000 in
set_option maxHeartbeats 4000000 in
theorem case_clashes {p : Program} {l : Launch} {e : Env} {s : State} {m : MethodId} {below : List Frame} {meth : Method} {c : Code} {D : va_G} {G : sx_G} {A : Nat → Prop} {b1 b2 bo bs L cl sl : Nat} {xs : Nat → Int32} {Q : State → Prop} {f g : sx_F} {o : Nat → Int64} {i : Int32} {K : sx_F → sx_F → Prop} (hf : l.stackTraces = false) (C : sx_Cx p l s m #[.ref bs] meth c D G A cL_law 7 RL) (hNC : sx_NC s) (hB1 : ∀ k, k < 129 → A (b1 + k)) (hB2 : ∀ k, k < 26 → A (b2 + k)) (hA : A bo) (hd12 : b1 + 129 ≤ b2) (hd2 : b2 + 26 ≤ bo) (hX : va_X bs L xs s s.heap) (hbl : bs < s.heap.size) (hbA : ¬ A bs) (hcl : cl + 9 ≤ 601024 ∧ sl + 54 ≤ 7293034) (hv1 : vp_in (i + 1) L) (hend : ∀ (f1 g1 : sx_F) (o1 : Nat → Int64), K f1 g1 → sx_J (sx_wl D G b1 129 lyX b2 26 lyM bo) p l e room_1 s m #[.ref bs] below meth c A 7 (cl + 9) (sl + 54) Q (f1, g1, o1) 2395 [(0, .ref bs), (1, .ref (b1 + 0)), (2, .ref (b2 + 0)), (3, .ref bo), (4, .int i)] []) (h : P_case_clashes f g o (xs (i + 1).toNatClampNeg) K) : sx_J (sx_wl D G b1 129 lyX b2 26 lyM bo) p l e room_1 s m #[.ref bs] below meth c A 7 (cl) (sl) Q (f, g, o) 2326 [(0, .ref bs), (1, .ref (b1 + 0)), (2, .ref (b2 + 0)), (3, .ref bo), (4, .int i)] [] := by
  unfold P_case_clashes at h
  refine sx_aload_n C dL_law_2326 1 1 rfl rfl 2327 rfl ?_
  refine sx_aload_n C dL_law_2327 0 0 rfl rfl 2328 rfl ?_
  refine sx_iload C dL_law_2328 4 rfl 2330 rfl ?_
  refine sx_iconst C dL_law_2330 1 (by decide) 2331 rfl ?_
  refine sx_iadd C dL_law_2331 2332 rfl ?_
  refine sx_sld C hX hbl hbA hv1 dL_law_2332 2333 rfl ?_
  refine sx_aload_n C dL_law_2333 3 3 rfl rfl 2334 rfl ?_
  refine sx_lcallW C hNC hB1 hA hd12 hd2 (st := []) dL_law_2334 (c_L_clashes hf (by omega) h) wi_L_clashes wn_L_clashes wt_L_clashes lk_L_237 ⟨by decide, by decide, (show _ = some 3 from by decide +kernel)⟩ rfl rfl ⟨⟨(Nat.le_of_ble_eq_true rfl), (Nat.le_of_ble_eq_true rfl)⟩, (by show cl + 1 ≤ 601024; omega), (by show sl + 6 ≤ 7293034; omega)⟩ (Nat.le_of_ble_eq_true rfl) 2337 rfl (fun k f1 o1 h => ?_)
  refine sx_istore C dL_law_2337 [(5, .int k), (0, .ref bs), (1, .ref (b1 + 0)), (2, .ref (b2 + 0)), (3, .ref bo), (4, .int i)] (by decide) rfl 2339 rfl ?_
  refine sx_aload_n C dL_law_2339 2 3 rfl rfl 2340 rfl ?_
  refine sx_aload_n C dL_law_2340 0 1 rfl rfl 2341 rfl ?_
  refine sx_iload C dL_law_2341 5 rfl 2343 rfl ?_
  refine sx_iconst C dL_law_2343 1 (by decide) 2344 rfl ?_
  refine sx_iadd C dL_law_2344 2345 rfl ?_
  refine sx_sld C hX hbl hbA hv1 dL_law_2345 2346 rfl ?_
  refine sx_lcall2 C hB2 hd12 hd2 (st := []) dL_law_2346 (c_X7_clashes hf h) mi_X7_clashes lk_L_239 mn_X7_clashes ms_X7_clashes (by decide) lyM_0 rfl rfl rfl rfl ⟨⟨(Nat.le_of_ble_eq_true rfl), (Nat.le_of_ble_eq_true rfl)⟩, (by show cl + 1 + 0 ≤ 601024; omega), (by show sl + 6 + 0 ≤ 7293034; omega)⟩ (Nat.le_of_ble_eq_true rfl) 2349 rfl (fun v g1 h => ?_)
  obtain ⟨r, rfl, h⟩ := h
  refine sx_istore C dL_law_2349 [(6, .int r), (5, .int k), (0, .ref bs), (1, .ref (b1 + 0)), (2, .ref (b2 + 0)), (3, .ref bo), (4, .int i)] (by decide) rfl 2351 rfl ?_
  refine sx_aload_n C dL_law_2351 2 4 rfl rfl 2352 rfl ?_
  refine sx_lcall2 C hB2 hd12 hd2 (st := []) dL_law_2352 (c_X7_thrown hf h) mi_X7_thrown lk_L_129 mn_X7_thrown ms_X7_thrown (by decide) lyM_0 rfl rfl rfl rfl ⟨⟨(Nat.le_of_ble_eq_true rfl), (Nat.le_of_ble_eq_true rfl)⟩, (by show cl + 1 + 0 ≤ 601024; omega), (by show sl + 6 + 0 ≤ 7293034; omega)⟩ (Nat.le_of_ble_eq_true rfl) 2355 rfl (fun v g2 h => ?_)
  obtain ⟨⟨t, rfl, h⟩, rfl⟩ := h
  refine sx_iload C dL_law_2355 1 rfl 2357 rfl ?_
  refine sx_icmp_eq C dL_law_2357 2362 2360 (by decide) rfl (fun c1 => ?_) (fun c1 => absurd h.1 c1)
  refine sx_iload C dL_law_2362 1 rfl 2364 rfl ?_
  refine sx_if_ne C dL_law_2364 2379 2367 (by decide) rfl (fun c2 => ?_) (fun c2 => ?_)
  · refine sx_goto C dL_law_2379 2395 (by decide) ?_
    refine sx_widen (k := cl + 9) (n := sl + 54) (by omega) (by omega) ?_
    exact sx_sub [2, 3, 4, 5, 6] rfl (hend _ _ _ h.2.2)
  · refine sx_aload_n C dL_law_2367 3 5 rfl rfl 2368 rfl ?_
    refine sx_iconst C dL_law_2368 0 (by decide) 2369 rfl ?_
    refine sx_lald C dL_law_2369 2370 rfl ?_
    refine sx_iload C dL_law_2370 0 rfl 2372 rfl ?_
    refine sx_i2l C dL_law_2372 2373 rfl ?_
    refine sx_lcmp C dL_law_2373 2374 rfl ?_
    refine sx_if_eq C dL_law_2374 2379 2377 (by decide) rfl (fun c3 => ?_) (fun c3 => absurd ((lg_cmp_eq _ _).mpr (h.2.1 c2)) c3)
    refine sx_goto C dL_law_2379 2395 (by decide) ?_
    refine sx_widen (k := cl + 9) (n := sl + 54) (by omega) (by omega) ?_
    exact sx_sub [2, 3, 4, 5, 6] rfl (hend _ _ _ h.2.2)
set_option maxRecDepth 100000 in
set_option maxHeartbeats 4000000 in
theorem case_concerts {p : Program} {l : Launch} {e : Env} {s : State} {m : MethodId} {below : List Frame} {meth : Method} {c : Code} {D : va_G} {G : sx_G} {A : Nat → Prop} {b1 b2 bo bs L cl sl : Nat} {xs : Nat → Int32} {Q : State → Prop} {f g : sx_F} {o : Nat → Int64} {i : Int32} {K : sx_F → sx_F → Prop} (hf : l.stackTraces = false) (C : sx_Cx p l s m #[.ref bs] meth c D G A cL_law 7 RL) (hNC : sx_NC s) (hB1 : ∀ k, k < 129 → A (b1 + k)) (hB2 : ∀ k, k < 26 → A (b2 + k)) (hA : A bo) (hd12 : b1 + 129 ≤ b2) (hd2 : b2 + 26 ≤ bo) (hX : va_X bs L xs s s.heap) (hbl : bs < s.heap.size) (hbA : ¬ A bs) (hcl : cl + 9 ≤ 601024 ∧ sl + 54 ≤ 7293034) (hend : ∀ (f1 g1 : sx_F) (o1 : Nat → Int64), K f1 g1 → sx_J (sx_wl D G b1 129 lyX b2 26 lyM bo) p l e room_1 s m #[.ref bs] below meth c A 7 (cl + 9) (sl + 54) Q (f1, g1, o1) 2395 [(0, .ref bs), (1, .ref (b1 + 0)), (2, .ref (b2 + 0)), (3, .ref bo), (4, .int i)] []) (h : P_case_concerts f g K) : sx_J (sx_wl D G b1 129 lyX b2 26 lyM bo) p l e room_1 s m #[.ref bs] below meth c A 7 (cl) (sl) Q (f, g, o) 2382 [(0, .ref bs), (1, .ref (b1 + 0)), (2, .ref (b2 + 0)), (3, .ref bo), (4, .int i)] [] := by
  unfold P_case_concerts at h
  refine sx_aload_n C dL_law_2382 1 1 rfl rfl 2383 rfl ?_
  refine sx_lcall1 C hB1 hd12 hd2 (st := []) dL_law_2383 (c_X6_concerts hf h) mi_X6_concerts lk_L_240 mn_X6_concerts ms_X6_concerts (by decide) lyX_0 rfl rfl rfl rfl ⟨⟨(Nat.le_of_ble_eq_true rfl), (Nat.le_of_ble_eq_true rfl)⟩, (by show cl + 0 ≤ 601024; omega), (by show sl + 0 ≤ 7293034; omega)⟩ (Nat.le_of_ble_eq_true rfl) 2386 rfl (fun v f1 h => ?_)
  obtain ⟨⟨r, rfl, h⟩, rfl⟩ := h
  refine sx_aload_n C dL_law_2386 2 2 rfl rfl 2387 rfl ?_
  refine sx_lcall2 C hB2 hd12 hd2 (st := [.int r]) dL_law_2387 (c_X7_concerts hf h) mi_X7_concerts lk_L_243 mn_X7_concerts ms_X7_concerts (by decide) lyM_0 rfl rfl rfl rfl ⟨⟨(Nat.le_of_ble_eq_true rfl), (Nat.le_of_ble_eq_true rfl)⟩, (by show cl + 0 + 0 ≤ 601024; omega), (by show sl + 0 + 0 ≤ 7293034; omega)⟩ (Nat.le_of_ble_eq_true rfl) 2390 rfl (fun v g1 h => ?_)
  obtain ⟨b, rfl, h⟩ := h
  refine sx_icmp_eq C dL_law_2390 2395 2393 (by decide) rfl (fun c1 => ?_) (fun c1 => absurd h.1 c1)
  refine sx_widen (k := cl + 9) (n := sl + 54) (by omega) (by omega) ?_
  exact hend _ _ _ h.2
