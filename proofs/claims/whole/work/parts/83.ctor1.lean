def ze_2_1 (x : xX) (E : Nat → va_E) : Nat → va_E := uE (uE (uE (uE (uE (uE (uE (uE (uE (uE (uE (uE (uB (uE (uE (uE (uE (uE (E) 2 (.inl (x.2.1.1 100, 24, .inl (fun _ => Int32.ofInt 0)))) 1 (.inr (2, [iV 0, iV 0, iV 0, iV 0, iV 0, iV 0, iV 0, .ref (x.2.2.1 + 2), .null, .null, .null, .null, .null, .null, .null]))) 3 (.inl (x.2.1.1 100, 24, .inl (fun _ => Int32.ofInt 0)))) 1 (.inr (2, [iV 0, iV 0, iV 0, iV 0, iV 0, iV 0, iV 0, .ref (x.2.2.1 + 2), .ref (x.2.2.1 + 3), .null, .null, .null, .null, .null, .null]))) 4 (.inl (x.2.1.1 104, 25, .inr (.inr (.inr (.inr (fun j => some (x.2.2.1 + (4 + 1 + 1 * j))))))))) (4 + 1) 25 (.inl (x.2.1.1 100, 6, .inl (fun _ => Int32.ofInt 0)))) 1 (.inr (2, [iV 0, iV 0, iV 0, iV 0, iV 0, iV 0, iV 0, .ref (x.2.2.1 + 2), .ref (x.2.2.1 + 3), .ref (x.2.2.1 + 4), .null, .null, .null, .null, .null]))) 30 (.inl (x.2.1.1 101, 24, .inl (fun _ => Int32.ofInt 0)))) 1 (.inr (2, [iV 0, iV 0, iV 0, iV 0, iV 0, iV 0, iV 0, .ref (x.2.2.1 + 2), .ref (x.2.2.1 + 3), .ref (x.2.2.1 + 4), .ref (x.2.2.1 + 30), .null, .null, .null, .null]))) 31 (.inl (x.2.1.1 100, 8, .inl (fun _ => Int32.ofInt 0)))) 1 (.inr (2, [iV 0, iV 0, iV 0, iV 0, iV 0, iV 0, iV 0, .ref (x.2.2.1 + 2), .ref (x.2.2.1 + 3), .ref (x.2.2.1 + 4), .ref (x.2.2.1 + 30), .ref (x.2.2.1 + 31), .null, .null, .null]))) 32 (.inl (x.2.1.1 100, 6, .inl (fun _ => Int32.ofInt 0)))) 1 (.inr (2, [iV 0, iV 0, iV 0, iV 0, iV 0, iV 0, iV 0, .ref (x.2.2.1 + 2), .ref (x.2.2.1 + 3), .ref (x.2.2.1 + 4), .ref (x.2.2.1 + 30), .ref (x.2.2.1 + 31), .ref (x.2.2.1 + 32), .null, .null]))) 33 (.inl (x.2.1.1 100, 6, .inl (fun _ => Int32.ofInt 0)))) 1 (.inr (2, [iV 0, iV 0, iV 0, iV 0, iV 0, iV 0, iV 0, .ref (x.2.2.1 + 2), .ref (x.2.2.1 + 3), .ref (x.2.2.1 + 4), .ref (x.2.2.1 + 30), .ref (x.2.2.1 + 31), .ref (x.2.2.1 + 32), .ref (x.2.2.1 + 33), .null]))) 34 (.inl (x.2.1.1 100, 6, .inl (fun _ => Int32.ofInt 0)))) 1 (.inr (2, [iV 0, iV 0, iV 0, iV 0, iV 0, iV 0, iV 0, .ref (x.2.2.1 + 2), .ref (x.2.2.1 + 3), .ref (x.2.2.1 + 4), .ref (x.2.2.1 + 30), .ref (x.2.2.1 + 31), .ref (x.2.2.1 + 32), .ref (x.2.2.1 + 33), .ref (x.2.2.1 + 34)]))) 29 (.inl (x.2.1.1 100, 6, .inl (fun _ => Int32.ofInt (-1))))
set_option maxRecDepth 100000 in
set_option maxHeartbeats 8000000 in
theorem zt_2_1 (x : xX) (E : Nat → va_E) (hE : E 1 = .inr (2, [iV 0, iV 0, iV 0, iV 0, iV 0, iV 0, iV 0, .null, .null, .null, .null, .null, .null, .null, .null])) : yMet x 2 yX2_init cX2_init 1 [.ref (x.2.2.1 + 1)] 33 273 2 E 35 (ze_2_1 x E) := by
  refine yMet_of (by decide +kernel) (Nat.le_of_ble_eq_true rfl) yI (fun _ _ h => h) ?_
  show yGr x (yRm 2 33 273, RX2, cX2_init, 1, none, yI) (0, 0) (yFin x (yQ x 35 (ze_2_1 x E)) 33 273) (yR x 2 E) 0 [(0, .ref (x.2.2.1 + 1))] []
  refine y_aload_n 0 rfl dX2_init_0 ?_
  refine y_obj zl_X2_3 zo_ins zo_code ⟨Nat.le_of_ble_eq_true rfl, Nat.le_of_ble_eq_true rfl⟩ (Nat.le_of_ble_eq_true rfl) dX2_init_1 ?_
  refine y_aload_n 0 rfl dX2_init_4 ?_
  refine y_bipush dX2_init_5 (by decide) ?_
  refine y_newI (K := 2) (K2 := 3) (cs2 := (1, 24)) 24 za_int (by decide) (by decide) (by decide) ⟨Nat.le_of_ble_eq_true rfl, Nat.le_of_ble_eq_true rfl⟩ rfl rfl dX2_init_7 ?_
  refine y_putF (k := 1) 7 [iV 0, iV 0, iV 0, iV 0, iV 0, iV 0, iV 0, .ref (x.2.2.1 + 2), .null, .null, .null, .null, .null, .null, .null] (by decide) hE (Nat.le_of_ble_eq_true rfl) rfl rfl (by decide) inT2 fl_X2_9 tyX2 tyX2_ok nmX2 rfl (fun _ _ h => h) rfl rfl rfl dX2_init_9 ?_
  refine y_aload_n 0 rfl dX2_init_12 ?_
  refine y_bipush dX2_init_13 (by decide) ?_
  refine y_newI (K := 3) (K2 := 4) (cs2 := (2, 48)) 24 za_int (by decide) (by decide) (by decide) ⟨Nat.le_of_ble_eq_true rfl, Nat.le_of_ble_eq_true rfl⟩ rfl rfl dX2_init_15 ?_
  refine y_putF (k := 1) 8 [iV 0, iV 0, iV 0, iV 0, iV 0, iV 0, iV 0, .ref (x.2.2.1 + 2), .ref (x.2.2.1 + 3), .null, .null, .null, .null, .null, .null] (by decide) rfl (Nat.le_of_ble_eq_true rfl) rfl rfl (by decide) inT2 fl_X2_15 tyX2 tyX2_ok nmX2 rfl (fun _ _ h => h) rfl rfl rfl dX2_init_17 ?_
  refine y_aload_n 0 rfl dX2_init_20 ?_
  refine y_bipush dX2_init_21 (by decide) ?_
  refine y_bipush dX2_init_23 (by decide) ?_
  refine y_mna (K := 4) (K2 := 30) (cs2 := (28, 223)) 25 6 zk_X2_18 za_int (by decide) (by decide) (by decide) (by decide) (by decide) (by decide) (by decide) ⟨Nat.le_of_ble_eq_true rfl, Nat.le_of_ble_eq_true rfl⟩ rfl rfl dX2_init_25 ?_
  refine y_putF (k := 1) 9 [iV 0, iV 0, iV 0, iV 0, iV 0, iV 0, iV 0, .ref (x.2.2.1 + 2), .ref (x.2.2.1 + 3), .ref (x.2.2.1 + 4), .null, .null, .null, .null, .null] (by decide) rfl (Nat.le_of_ble_eq_true rfl) rfl rfl (by decide) inT2 fl_X2_20 tyX2 tyX2_ok nmX2 rfl (fun _ _ h => h) rfl rfl rfl dX2_init_29 ?_
  refine y_aload_n 0 rfl dX2_init_32 ?_
  refine y_bipush dX2_init_33 (by decide) ?_
  refine y_newZ (K := 30) (K2 := 31) (cs2 := (29, 247)) 24 za_boolean (by decide) (by decide) (by decide) ⟨Nat.le_of_ble_eq_true rfl, Nat.le_of_ble_eq_true rfl⟩ rfl rfl dX2_init_35 ?_
  refine y_putF (k := 1) 10 [iV 0, iV 0, iV 0, iV 0, iV 0, iV 0, iV 0, .ref (x.2.2.1 + 2), .ref (x.2.2.1 + 3), .ref (x.2.2.1 + 4), .ref (x.2.2.1 + 30), .null, .null, .null, .null] (by decide) rfl (Nat.le_of_ble_eq_true rfl) rfl rfl (by decide) inT2 fl_X2_23 tyX2 tyX2_ok nmX2 rfl (fun _ _ h => h) rfl rfl rfl dX2_init_37 ?_
  refine y_aload_n 0 rfl dX2_init_40 ?_
  refine y_bipush dX2_init_41 (by decide) ?_
  refine y_newI (K := 31) (K2 := 32) (cs2 := (30, 255)) 8 za_int (by decide) (by decide) (by decide) ⟨Nat.le_of_ble_eq_true rfl, Nat.le_of_ble_eq_true rfl⟩ rfl rfl dX2_init_43 ?_
  refine y_putF (k := 1) 11 [iV 0, iV 0, iV 0, iV 0, iV 0, iV 0, iV 0, .ref (x.2.2.1 + 2), .ref (x.2.2.1 + 3), .ref (x.2.2.1 + 4), .ref (x.2.2.1 + 30), .ref (x.2.2.1 + 31), .null, .null, .null] (by decide) rfl (Nat.le_of_ble_eq_true rfl) rfl rfl (by decide) inT2 fl_X2_27 tyX2 tyX2_ok nmX2 rfl (fun _ _ h => h) rfl rfl rfl dX2_init_45 ?_
  refine y_aload_n 0 rfl dX2_init_48 ?_
  refine y_bipush dX2_init_49 (by decide) ?_
  refine y_newI (K := 32) (K2 := 33) (cs2 := (31, 261)) 6 za_int (by decide) (by decide) (by decide) ⟨Nat.le_of_ble_eq_true rfl, Nat.le_of_ble_eq_true rfl⟩ rfl rfl dX2_init_51 ?_
  refine y_putF (k := 1) 12 [iV 0, iV 0, iV 0, iV 0, iV 0, iV 0, iV 0, .ref (x.2.2.1 + 2), .ref (x.2.2.1 + 3), .ref (x.2.2.1 + 4), .ref (x.2.2.1 + 30), .ref (x.2.2.1 + 31), .ref (x.2.2.1 + 32), .null, .null] (by decide) rfl (Nat.le_of_ble_eq_true rfl) rfl rfl (by decide) inT2 fl_X2_30 tyX2 tyX2_ok nmX2 rfl (fun _ _ h => h) rfl rfl rfl dX2_init_53 ?_
  refine y_aload_n 0 rfl dX2_init_56 ?_
  refine y_bipush dX2_init_57 (by decide) ?_
  refine y_newI (K := 33) (K2 := 34) (cs2 := (32, 267)) 6 za_int (by decide) (by decide) (by decide) ⟨Nat.le_of_ble_eq_true rfl, Nat.le_of_ble_eq_true rfl⟩ rfl rfl dX2_init_59 ?_
  refine y_putF (k := 1) 13 [iV 0, iV 0, iV 0, iV 0, iV 0, iV 0, iV 0, .ref (x.2.2.1 + 2), .ref (x.2.2.1 + 3), .ref (x.2.2.1 + 4), .ref (x.2.2.1 + 30), .ref (x.2.2.1 + 31), .ref (x.2.2.1 + 32), .ref (x.2.2.1 + 33), .null] (by decide) rfl (Nat.le_of_ble_eq_true rfl) rfl rfl (by decide) inT2 fl_X2_33 tyX2 tyX2_ok nmX2 rfl (fun _ _ h => h) rfl rfl rfl dX2_init_61 ?_
  refine y_aload_n 0 rfl dX2_init_64 ?_
  refine y_bipush dX2_init_65 (by decide) ?_
  refine y_newI (K := 34) (K2 := 35) (cs2 := (33, 273)) 6 za_int (by decide) (by decide) (by decide) ⟨Nat.le_of_ble_eq_true rfl, Nat.le_of_ble_eq_true rfl⟩ rfl rfl dX2_init_67 ?_
  refine y_putF (k := 1) 14 [iV 0, iV 0, iV 0, iV 0, iV 0, iV 0, iV 0, .ref (x.2.2.1 + 2), .ref (x.2.2.1 + 3), .ref (x.2.2.1 + 4), .ref (x.2.2.1 + 30), .ref (x.2.2.1 + 31), .ref (x.2.2.1 + 32), .ref (x.2.2.1 + 33), .ref (x.2.2.1 + 34)] (by decide) rfl (Nat.le_of_ble_eq_true rfl) rfl rfl (by decide) inT2 fl_X2_36 tyX2 tyX2_ok nmX2 rfl (fun _ _ h => h) rfl rfl rfl dX2_init_69 ?_
  refine y_aload_n 0 rfl dX2_init_72 ?_
  refine y_get (k := 1) (v := .ref (x.2.2.1 + 4)) 9 (by decide) rfl rfl rfl (by decide) inT2 fl_X2_20 dX2_init_73 ?_
  refine y_bipush dX2_init_76 (by decide) ?_
  refine y_aald (k := 4) (n := 25) (r := x.2.2.1 + 29) (by decide) rfl (by decide) (by decide) ⟨by decide, by decide⟩ rfl dX2_init_78 ?_
  refine y_iconst dX2_init_79 ?_
  refine y_callS (cs2 := (33, 273)) (As := [.ref (x.2.2.1 + 29), iV (-1)]) cal_J7_fill_53178 sta_J7_fill_53178 (y_fillM x (k := 29) (n := 6) (v := -1) (by decide) rfl (by decide)) rfl zl_X2_39 ⟨Nat.le_of_ble_eq_true rfl, Nat.le_of_ble_eq_true rfl⟩ ⟨Nat.le_of_ble_eq_true rfl, Nat.le_of_ble_eq_true rfl⟩ (Nat.le_of_ble_eq_true rfl) rfl dX2_init_80 ?_
  exact y_vret rfl dX2_init_83
def ze_5_35 (x : xX) (E : Nat → va_E) : Nat → va_E := uE (uE (uE (uE (uE (uE (uE (E) 36 (.inl (x.2.1.1 100, 900, .inl (fun _ => Int32.ofInt 0)))) 35 (.inr (5, [iV 0, iV 0, iV 0, .ref (x.2.2.1 + 36), .null, .null, .null, iV 0, iV 0, iV 0, iV 0, iV 0, iV 0, iV 0]))) 37 (.inl (x.2.1.1 100, 8, .inl (fun _ => Int32.ofInt 0)))) 35 (.inr (5, [iV 0, iV 0, iV 0, .ref (x.2.2.1 + 36), .ref (x.2.2.1 + 37), .null, .null, iV 0, iV 0, iV 0, iV 0, iV 0, iV 0, iV 0]))) 38 (.inl (x.2.1.1 100, 8, .inl (fun _ => Int32.ofInt 0)))) 35 (.inr (5, [iV 0, iV 0, iV 0, .ref (x.2.2.1 + 36), .ref (x.2.2.1 + 37), .ref (x.2.2.1 + 38), .null, iV 0, iV 0, iV 0, iV 0, iV 0, iV 0, iV 0]))) 35 (.inr (5, [iV 0, iV 0, iV 0, .ref (x.2.2.1 + 36), .ref (x.2.2.1 + 37), .ref (x.2.2.1 + 38), .ref (x.2.2.1 + 1), iV 0, iV 0, iV 0, iV 0, iV 0, iV 0, iV 0]))
set_option maxRecDepth 100000 in
set_option maxHeartbeats 8000000 in
theorem zt_5_35 (x : xX) (E : Nat → va_E) (hE : E 35 = .inr (5, [iV 0, iV 0, iV 0, .null, .null, .null, .null, iV 0, iV 0, iV 0, iV 0, iV 0, iV 0, iV 0])) : yMet x 1 yX5_init cX5_init 2 [.ref (x.2.2.1 + 35), .ref (x.2.2.1 + 1)] 3 916 36 E 39 (ze_5_35 x E) := by
  refine yMet_of (by decide +kernel) (Nat.le_of_ble_eq_true rfl) yI (fun _ _ h => h) ?_
  show yGr x (yRm 1 3 916, RX5, cX5_init, 2, none, yI) (0, 0) (yFin x (yQ x 39 (ze_5_35 x E)) 3 916) (yR x 36 E) 0 [(0, .ref (x.2.2.1 + 35)), (1, .ref (x.2.2.1 + 1))] []
  refine y_aload_n 0 rfl dX5_init_0 ?_
  refine y_obj zl_X5_3 zo_ins zo_code ⟨Nat.le_of_ble_eq_true rfl, Nat.le_of_ble_eq_true rfl⟩ (Nat.le_of_ble_eq_true rfl) dX5_init_1 ?_
  refine y_aload_n 0 rfl dX5_init_4 ?_
  refine y_sipush dX5_init_5 (by decide) ?_
  refine y_newI (K := 36) (K2 := 37) (cs2 := (1, 900)) 900 za_int (by decide) (by decide) (by decide) ⟨Nat.le_of_ble_eq_true rfl, Nat.le_of_ble_eq_true rfl⟩ rfl rfl dX5_init_8 ?_
  refine y_putF (k := 35) 3 [iV 0, iV 0, iV 0, .ref (x.2.2.1 + 36), .null, .null, .null, iV 0, iV 0, iV 0, iV 0, iV 0, iV 0, iV 0] (by decide) hE (Nat.le_of_ble_eq_true rfl) rfl rfl (by decide) inT5 fl_X5_9 tyX5 tyX5_ok nmX5 rfl (fun _ _ h => h) rfl rfl rfl dX5_init_10 ?_
  refine y_aload_n 0 rfl dX5_init_13 ?_
  refine y_bipush dX5_init_14 (by decide) ?_
  refine y_newI (K := 37) (K2 := 38) (cs2 := (2, 908)) 8 za_int (by decide) (by decide) (by decide) ⟨Nat.le_of_ble_eq_true rfl, Nat.le_of_ble_eq_true rfl⟩ rfl rfl dX5_init_16 ?_
  refine y_putF (k := 35) 4 [iV 0, iV 0, iV 0, .ref (x.2.2.1 + 36), .ref (x.2.2.1 + 37), .null, .null, iV 0, iV 0, iV 0, iV 0, iV 0, iV 0, iV 0] (by decide) rfl (Nat.le_of_ble_eq_true rfl) rfl rfl (by decide) inT5 fl_X5_15 tyX5 tyX5_ok nmX5 rfl (fun _ _ h => h) rfl rfl rfl dX5_init_18 ?_
  refine y_aload_n 0 rfl dX5_init_21 ?_
  refine y_bipush dX5_init_22 (by decide) ?_
  refine y_newI (K := 38) (K2 := 39) (cs2 := (3, 916)) 8 za_int (by decide) (by decide) (by decide) ⟨Nat.le_of_ble_eq_true rfl, Nat.le_of_ble_eq_true rfl⟩ rfl rfl dX5_init_24 ?_
  refine y_putF (k := 35) 5 [iV 0, iV 0, iV 0, .ref (x.2.2.1 + 36), .ref (x.2.2.1 + 37), .ref (x.2.2.1 + 38), .null, iV 0, iV 0, iV 0, iV 0, iV 0, iV 0, iV 0] (by decide) rfl (Nat.le_of_ble_eq_true rfl) rfl rfl (by decide) inT5 fl_X5_18 tyX5 tyX5_ok nmX5 rfl (fun _ _ h => h) rfl rfl rfl dX5_init_26 ?_
  refine y_aload_n 0 rfl dX5_init_29 ?_
  refine y_aload_n 1 rfl dX5_init_30 ?_
  refine y_putF (k := 35) 6 [iV 0, iV 0, iV 0, .ref (x.2.2.1 + 36), .ref (x.2.2.1 + 37), .ref (x.2.2.1 + 38), .ref (x.2.2.1 + 1), iV 0, iV 0, iV 0, iV 0, iV 0, iV 0, iV 0] (by decide) rfl (Nat.le_of_ble_eq_true rfl) rfl rfl (by decide) inT5 fl_X5_21 tyX5 tyX5_ok nmX5 rfl (fun _ _ h => h) rfl rfl rfl dX5_init_31 ?_
  exact y_vret rfl dX5_init_34
def ze_2_39 (x : xX) (E : Nat → va_E) : Nat → va_E := uE (uE (uE (uE (uE (uE (uE (uE (uE (uE (uE (uE (uB (uE (uE (uE (uE (uE (E) 40 (.inl (x.2.1.1 100, 24, .inl (fun _ => Int32.ofInt 0)))) 39 (.inr (2, [iV 0, iV 0, iV 0, iV 0, iV 0, iV 0, iV 0, .ref (x.2.2.1 + 40), .null, .null, .null, .null, .null, .null, .null]))) 41 (.inl (x.2.1.1 100, 24, .inl (fun _ => Int32.ofInt 0)))) 39 (.inr (2, [iV 0, iV 0, iV 0, iV 0, iV 0, iV 0, iV 0, .ref (x.2.2.1 + 40), .ref (x.2.2.1 + 41), .null, .null, .null, .null, .null, .null]))) 42 (.inl (x.2.1.1 104, 25, .inr (.inr (.inr (.inr (fun j => some (x.2.2.1 + (42 + 1 + 1 * j))))))))) (42 + 1) 25 (.inl (x.2.1.1 100, 6, .inl (fun _ => Int32.ofInt 0)))) 39 (.inr (2, [iV 0, iV 0, iV 0, iV 0, iV 0, iV 0, iV 0, .ref (x.2.2.1 + 40), .ref (x.2.2.1 + 41), .ref (x.2.2.1 + 42), .null, .null, .null, .null, .null]))) 68 (.inl (x.2.1.1 101, 24, .inl (fun _ => Int32.ofInt 0)))) 39 (.inr (2, [iV 0, iV 0, iV 0, iV 0, iV 0, iV 0, iV 0, .ref (x.2.2.1 + 40), .ref (x.2.2.1 + 41), .ref (x.2.2.1 + 42), .ref (x.2.2.1 + 68), .null, .null, .null, .null]))) 69 (.inl (x.2.1.1 100, 8, .inl (fun _ => Int32.ofInt 0)))) 39 (.inr (2, [iV 0, iV 0, iV 0, iV 0, iV 0, iV 0, iV 0, .ref (x.2.2.1 + 40), .ref (x.2.2.1 + 41), .ref (x.2.2.1 + 42), .ref (x.2.2.1 + 68), .ref (x.2.2.1 + 69), .null, .null, .null]))) 70 (.inl (x.2.1.1 100, 6, .inl (fun _ => Int32.ofInt 0)))) 39 (.inr (2, [iV 0, iV 0, iV 0, iV 0, iV 0, iV 0, iV 0, .ref (x.2.2.1 + 40), .ref (x.2.2.1 + 41), .ref (x.2.2.1 + 42), .ref (x.2.2.1 + 68), .ref (x.2.2.1 + 69), .ref (x.2.2.1 + 70), .null, .null]))) 71 (.inl (x.2.1.1 100, 6, .inl (fun _ => Int32.ofInt 0)))) 39 (.inr (2, [iV 0, iV 0, iV 0, iV 0, iV 0, iV 0, iV 0, .ref (x.2.2.1 + 40), .ref (x.2.2.1 + 41), .ref (x.2.2.1 + 42), .ref (x.2.2.1 + 68), .ref (x.2.2.1 + 69), .ref (x.2.2.1 + 70), .ref (x.2.2.1 + 71), .null]))) 72 (.inl (x.2.1.1 100, 6, .inl (fun _ => Int32.ofInt 0)))) 39 (.inr (2, [iV 0, iV 0, iV 0, iV 0, iV 0, iV 0, iV 0, .ref (x.2.2.1 + 40), .ref (x.2.2.1 + 41), .ref (x.2.2.1 + 42), .ref (x.2.2.1 + 68), .ref (x.2.2.1 + 69), .ref (x.2.2.1 + 70), .ref (x.2.2.1 + 71), .ref (x.2.2.1 + 72)]))) 67 (.inl (x.2.1.1 100, 6, .inl (fun _ => Int32.ofInt (-1))))
set_option maxRecDepth 100000 in
set_option maxHeartbeats 8000000 in
theorem zt_2_39 (x : xX) (E : Nat → va_E) (hE : E 39 = .inr (2, [iV 0, iV 0, iV 0, iV 0, iV 0, iV 0, iV 0, .null, .null, .null, .null, .null, .null, .null, .null])) : yMet x 2 yX2_init cX2_init 1 [.ref (x.2.2.1 + 39)] 33 273 40 E 73 (ze_2_39 x E) := by
  refine yMet_of (by decide +kernel) (Nat.le_of_ble_eq_true rfl) yI (fun _ _ h => h) ?_
  show yGr x (yRm 2 33 273, RX2, cX2_init, 1, none, yI) (0, 0) (yFin x (yQ x 73 (ze_2_39 x E)) 33 273) (yR x 40 E) 0 [(0, .ref (x.2.2.1 + 39))] []
  refine y_aload_n 0 rfl dX2_init_0 ?_
  refine y_obj zl_X2_3 zo_ins zo_code ⟨Nat.le_of_ble_eq_true rfl, Nat.le_of_ble_eq_true rfl⟩ (Nat.le_of_ble_eq_true rfl) dX2_init_1 ?_
  refine y_aload_n 0 rfl dX2_init_4 ?_
  refine y_bipush dX2_init_5 (by decide) ?_
  refine y_newI (K := 40) (K2 := 41) (cs2 := (1, 24)) 24 za_int (by decide) (by decide) (by decide) ⟨Nat.le_of_ble_eq_true rfl, Nat.le_of_ble_eq_true rfl⟩ rfl rfl dX2_init_7 ?_
  refine y_putF (k := 39) 7 [iV 0, iV 0, iV 0, iV 0, iV 0, iV 0, iV 0, .ref (x.2.2.1 + 40), .null, .null, .null, .null, .null, .null, .null] (by decide) hE (Nat.le_of_ble_eq_true rfl) rfl rfl (by decide) inT2 fl_X2_9 tyX2 tyX2_ok nmX2 rfl (fun _ _ h => h) rfl rfl rfl dX2_init_9 ?_
  refine y_aload_n 0 rfl dX2_init_12 ?_
  refine y_bipush dX2_init_13 (by decide) ?_
  refine y_newI (K := 41) (K2 := 42) (cs2 := (2, 48)) 24 za_int (by decide) (by decide) (by decide) ⟨Nat.le_of_ble_eq_true rfl, Nat.le_of_ble_eq_true rfl⟩ rfl rfl dX2_init_15 ?_
  refine y_putF (k := 39) 8 [iV 0, iV 0, iV 0, iV 0, iV 0, iV 0, iV 0, .ref (x.2.2.1 + 40), .ref (x.2.2.1 + 41), .null, .null, .null, .null, .null, .null] (by decide) rfl (Nat.le_of_ble_eq_true rfl) rfl rfl (by decide) inT2 fl_X2_15 tyX2 tyX2_ok nmX2 rfl (fun _ _ h => h) rfl rfl rfl dX2_init_17 ?_
  refine y_aload_n 0 rfl dX2_init_20 ?_
  refine y_bipush dX2_init_21 (by decide) ?_
  refine y_bipush dX2_init_23 (by decide) ?_
  refine y_mna (K := 42) (K2 := 68) (cs2 := (28, 223)) 25 6 zk_X2_18 za_int (by decide) (by decide) (by decide) (by decide) (by decide) (by decide) (by decide) ⟨Nat.le_of_ble_eq_true rfl, Nat.le_of_ble_eq_true rfl⟩ rfl rfl dX2_init_25 ?_
  refine y_putF (k := 39) 9 [iV 0, iV 0, iV 0, iV 0, iV 0, iV 0, iV 0, .ref (x.2.2.1 + 40), .ref (x.2.2.1 + 41), .ref (x.2.2.1 + 42), .null, .null, .null, .null, .null] (by decide) rfl (Nat.le_of_ble_eq_true rfl) rfl rfl (by decide) inT2 fl_X2_20 tyX2 tyX2_ok nmX2 rfl (fun _ _ h => h) rfl rfl rfl dX2_init_29 ?_
  refine y_aload_n 0 rfl dX2_init_32 ?_
  refine y_bipush dX2_init_33 (by decide) ?_
  refine y_newZ (K := 68) (K2 := 69) (cs2 := (29, 247)) 24 za_boolean (by decide) (by decide) (by decide) ⟨Nat.le_of_ble_eq_true rfl, Nat.le_of_ble_eq_true rfl⟩ rfl rfl dX2_init_35 ?_
  refine y_putF (k := 39) 10 [iV 0, iV 0, iV 0, iV 0, iV 0, iV 0, iV 0, .ref (x.2.2.1 + 40), .ref (x.2.2.1 + 41), .ref (x.2.2.1 + 42), .ref (x.2.2.1 + 68), .null, .null, .null, .null] (by decide) rfl (Nat.le_of_ble_eq_true rfl) rfl rfl (by decide) inT2 fl_X2_23 tyX2 tyX2_ok nmX2 rfl (fun _ _ h => h) rfl rfl rfl dX2_init_37 ?_
  refine y_aload_n 0 rfl dX2_init_40 ?_
  refine y_bipush dX2_init_41 (by decide) ?_
  refine y_newI (K := 69) (K2 := 70) (cs2 := (30, 255)) 8 za_int (by decide) (by decide) (by decide) ⟨Nat.le_of_ble_eq_true rfl, Nat.le_of_ble_eq_true rfl⟩ rfl rfl dX2_init_43 ?_
  refine y_putF (k := 39) 11 [iV 0, iV 0, iV 0, iV 0, iV 0, iV 0, iV 0, .ref (x.2.2.1 + 40), .ref (x.2.2.1 + 41), .ref (x.2.2.1 + 42), .ref (x.2.2.1 + 68), .ref (x.2.2.1 + 69), .null, .null, .null] (by decide) rfl (Nat.le_of_ble_eq_true rfl) rfl rfl (by decide) inT2 fl_X2_27 tyX2 tyX2_ok nmX2 rfl (fun _ _ h => h) rfl rfl rfl dX2_init_45 ?_
  refine y_aload_n 0 rfl dX2_init_48 ?_
  refine y_bipush dX2_init_49 (by decide) ?_
  refine y_newI (K := 70) (K2 := 71) (cs2 := (31, 261)) 6 za_int (by decide) (by decide) (by decide) ⟨Nat.le_of_ble_eq_true rfl, Nat.le_of_ble_eq_true rfl⟩ rfl rfl dX2_init_51 ?_
  refine y_putF (k := 39) 12 [iV 0, iV 0, iV 0, iV 0, iV 0, iV 0, iV 0, .ref (x.2.2.1 + 40), .ref (x.2.2.1 + 41), .ref (x.2.2.1 + 42), .ref (x.2.2.1 + 68), .ref (x.2.2.1 + 69), .ref (x.2.2.1 + 70), .null, .null] (by decide) rfl (Nat.le_of_ble_eq_true rfl) rfl rfl (by decide) inT2 fl_X2_30 tyX2 tyX2_ok nmX2 rfl (fun _ _ h => h) rfl rfl rfl dX2_init_53 ?_
  refine y_aload_n 0 rfl dX2_init_56 ?_
  refine y_bipush dX2_init_57 (by decide) ?_
  refine y_newI (K := 71) (K2 := 72) (cs2 := (32, 267)) 6 za_int (by decide) (by decide) (by decide) ⟨Nat.le_of_ble_eq_true rfl, Nat.le_of_ble_eq_true rfl⟩ rfl rfl dX2_init_59 ?_
  refine y_putF (k := 39) 13 [iV 0, iV 0, iV 0, iV 0, iV 0, iV 0, iV 0, .ref (x.2.2.1 + 40), .ref (x.2.2.1 + 41), .ref (x.2.2.1 + 42), .ref (x.2.2.1 + 68), .ref (x.2.2.1 + 69), .ref (x.2.2.1 + 70), .ref (x.2.2.1 + 71), .null] (by decide) rfl (Nat.le_of_ble_eq_true rfl) rfl rfl (by decide) inT2 fl_X2_33 tyX2 tyX2_ok nmX2 rfl (fun _ _ h => h) rfl rfl rfl dX2_init_61 ?_
  refine y_aload_n 0 rfl dX2_init_64 ?_
  refine y_bipush dX2_init_65 (by decide) ?_
  refine y_newI (K := 72) (K2 := 73) (cs2 := (33, 273)) 6 za_int (by decide) (by decide) (by decide) ⟨Nat.le_of_ble_eq_true rfl, Nat.le_of_ble_eq_true rfl⟩ rfl rfl dX2_init_67 ?_
  refine y_putF (k := 39) 14 [iV 0, iV 0, iV 0, iV 0, iV 0, iV 0, iV 0, .ref (x.2.2.1 + 40), .ref (x.2.2.1 + 41), .ref (x.2.2.1 + 42), .ref (x.2.2.1 + 68), .ref (x.2.2.1 + 69), .ref (x.2.2.1 + 70), .ref (x.2.2.1 + 71), .ref (x.2.2.1 + 72)] (by decide) rfl (Nat.le_of_ble_eq_true rfl) rfl rfl (by decide) inT2 fl_X2_36 tyX2 tyX2_ok nmX2 rfl (fun _ _ h => h) rfl rfl rfl dX2_init_69 ?_
  refine y_aload_n 0 rfl dX2_init_72 ?_
  refine y_get (k := 39) (v := .ref (x.2.2.1 + 42)) 9 (by decide) rfl rfl rfl (by decide) inT2 fl_X2_20 dX2_init_73 ?_
  refine y_bipush dX2_init_76 (by decide) ?_
  refine y_aald (k := 42) (n := 25) (r := x.2.2.1 + 67) (by decide) rfl (by decide) (by decide) ⟨by decide, by decide⟩ rfl dX2_init_78 ?_
  refine y_iconst dX2_init_79 ?_
  refine y_callS (cs2 := (33, 273)) (As := [.ref (x.2.2.1 + 67), iV (-1)]) cal_J7_fill_53178 sta_J7_fill_53178 (y_fillM x (k := 67) (n := 6) (v := -1) (by decide) rfl (by decide)) rfl zl_X2_39 ⟨Nat.le_of_ble_eq_true rfl, Nat.le_of_ble_eq_true rfl⟩ ⟨Nat.le_of_ble_eq_true rfl, Nat.le_of_ble_eq_true rfl⟩ (Nat.le_of_ble_eq_true rfl) rfl dX2_init_80 ?_
  exact y_vret rfl dX2_init_83
def ze_1_73 (x : xX) (E : Nat → va_E) : Nat → va_E := uE (uE (uE (uE (uE (uE (uE (uE (uE (uE (uB (uE (uE (uE (uE (uB (uE (uE (uB (uE (uE (uB (uE (uE (uB (uE (E) 74 (.inl (x.2.1.1 104, 25, .inr (.inr (.inr (.inr (fun j => some (x.2.2.1 + (74 + 1 + 1 * j))))))))) (74 + 1) 25 (.inl (x.2.1.1 100, 24, .inl (fun _ => Int32.ofInt 0)))) 73 (.inr (1, [.null, .ref (x.2.2.1 + 74), .null, .null, .null, .null, .null, .null, .null, .null, .null]))) 100 (.inl (x.2.1.1 104, 25, .inr (.inr (.inr (.inr (fun j => some (x.2.2.1 + (100 + 1 + 1 * j))))))))) (100 + 1) 25 (.inl (x.2.1.1 100, 24, .inl (fun _ => Int32.ofInt 0)))) 73 (.inr (1, [.null, .ref (x.2.2.1 + 74), .ref (x.2.2.1 + 100), .null, .null, .null, .null, .null, .null, .null, .null]))) 126 (.inl (x.2.1.1 104, 25, .inr (.inr (.inr (.inr (fun j => some (x.2.2.1 + (126 + 1 + 1 * j))))))))) (126 + 1) 25 (.inl (x.2.1.1 100, 24, .inl (fun _ => Int32.ofInt 0)))) 73 (.inr (1, [.null, .ref (x.2.2.1 + 74), .ref (x.2.2.1 + 100), .ref (x.2.2.1 + 126), .null, .null, .null, .null, .null, .null, .null]))) 152 (.inl (x.2.1.1 104, 25, .inr (.inr (.inr (.inr (fun j => some (x.2.2.1 + (152 + 1 + 1 * j))))))))) (152 + 1) 25 (.inl (x.2.1.1 100, 24, .inl (fun _ => Int32.ofInt 0)))) 73 (.inr (1, [.null, .ref (x.2.2.1 + 74), .ref (x.2.2.1 + 100), .ref (x.2.2.1 + 126), .ref (x.2.2.1 + 152), .null, .null, .null, .null, .null, .null]))) 178 (.inl (x.2.1.1 100, 25, .inl (fun _ => Int32.ofInt 0)))) 73 (.inr (1, [.null, .ref (x.2.2.1 + 74), .ref (x.2.2.1 + 100), .ref (x.2.2.1 + 126), .ref (x.2.2.1 + 152), .ref (x.2.2.1 + 178), .null, .null, .null, .null, .null]))) 179 (.inl (x.2.1.1 104, 24, .inr (.inr (.inr (.inr (fun j => some (x.2.2.1 + (179 + 1 + 1 * j))))))))) (179 + 1) 24 (.inl (x.2.1.1 100, 25, .inl (fun _ => Int32.ofInt 0)))) 73 (.inr (1, [.null, .ref (x.2.2.1 + 74), .ref (x.2.2.1 + 100), .ref (x.2.2.1 + 126), .ref (x.2.2.1 + 152), .ref (x.2.2.1 + 178), .ref (x.2.2.1 + 179), .null, .null, .null, .null]))) 204 (.inl (x.2.1.1 100, 24, .inl (fun _ => Int32.ofInt 0)))) 73 (.inr (1, [.null, .ref (x.2.2.1 + 74), .ref (x.2.2.1 + 100), .ref (x.2.2.1 + 126), .ref (x.2.2.1 + 152), .ref (x.2.2.1 + 178), .ref (x.2.2.1 + 179), .ref (x.2.2.1 + 204), .null, .null, .null]))) 205 (.inl (x.2.1.1 100, 25, .inl (fun _ => Int32.ofInt 0)))) 73 (.inr (1, [.null, .ref (x.2.2.1 + 74), .ref (x.2.2.1 + 100), .ref (x.2.2.1 + 126), .ref (x.2.2.1 + 152), .ref (x.2.2.1 + 178), .ref (x.2.2.1 + 179), .ref (x.2.2.1 + 204), .ref (x.2.2.1 + 205), .null, .null]))) 206 (.inl (x.2.1.1 100, 25, .inl (fun _ => Int32.ofInt 0)))) 73 (.inr (1, [.null, .ref (x.2.2.1 + 74), .ref (x.2.2.1 + 100), .ref (x.2.2.1 + 126), .ref (x.2.2.1 + 152), .ref (x.2.2.1 + 178), .ref (x.2.2.1 + 179), .ref (x.2.2.1 + 204), .ref (x.2.2.1 + 205), .ref (x.2.2.1 + 206), .null]))) 207 (.inl (x.2.1.1 100, 25, .inl (fun _ => Int32.ofInt 0)))) 73 (.inr (1, [.null, .ref (x.2.2.1 + 74), .ref (x.2.2.1 + 100), .ref (x.2.2.1 + 126), .ref (x.2.2.1 + 152), .ref (x.2.2.1 + 178), .ref (x.2.2.1 + 179), .ref (x.2.2.1 + 204), .ref (x.2.2.1 + 205), .ref (x.2.2.1 + 206), .ref (x.2.2.1 + 207)]))) 73 (.inr (1, [.ref (x.2.2.1 + 39), .ref (x.2.2.1 + 74), .ref (x.2.2.1 + 100), .ref (x.2.2.1 + 126), .ref (x.2.2.1 + 152), .ref (x.2.2.1 + 178), .ref (x.2.2.1 + 179), .ref (x.2.2.1 + 204), .ref (x.2.2.1 + 205), .ref (x.2.2.1 + 206), .ref (x.2.2.1 + 207)]))
set_option maxRecDepth 100000 in
set_option maxHeartbeats 8000000 in
theorem zt_1_73 (x : xX) (E : Nat → va_E) (hE : E 73 = .inr (1, [.null, .null, .null, .null, .null, .null, .null, .null, .null, .null, .null])) : yMet x 1 yX1_init cX1_init 2 [.ref (x.2.2.1 + 73), .ref (x.2.2.1 + 39)] 134 3248 74 E 208 (ze_1_73 x E) := by
  refine yMet_of (by decide +kernel) (Nat.le_of_ble_eq_true rfl) yI (fun _ _ h => h) ?_
  show yGr x (yRm 1 134 3248, RX1, cX1_init, 2, none, yI) (0, 0) (yFin x (yQ x 208 (ze_1_73 x E)) 134 3248) (yR x 74 E) 0 [(0, .ref (x.2.2.1 + 73)), (1, .ref (x.2.2.1 + 39))] []
  refine y_aload_n 0 rfl dX1_init_0 ?_
  refine y_obj zl_X1_3 zo_ins zo_code ⟨Nat.le_of_ble_eq_true rfl, Nat.le_of_ble_eq_true rfl⟩ (Nat.le_of_ble_eq_true rfl) dX1_init_1 ?_
  refine y_aload_n 0 rfl dX1_init_4 ?_
  refine y_bipush dX1_init_5 (by decide) ?_
  refine y_bipush dX1_init_7 (by decide) ?_
  refine y_mna (K := 74) (K2 := 100) (cs2 := (26, 625)) 25 24 zk_X1_9 za_int (by decide) (by decide) (by decide) (by decide) (by decide) (by decide) (by decide) ⟨Nat.le_of_ble_eq_true rfl, Nat.le_of_ble_eq_true rfl⟩ rfl rfl dX1_init_9 ?_
  refine y_putF (k := 73) 1 [.null, .ref (x.2.2.1 + 74), .null, .null, .null, .null, .null, .null, .null, .null, .null] (by decide) hE (Nat.le_of_ble_eq_true rfl) rfl rfl (by decide) inT1 fl_X1_11 tyX1 tyX1_ok nmX1 rfl (fun _ _ h => h) rfl rfl rfl dX1_init_13 ?_
  refine y_aload_n 0 rfl dX1_init_16 ?_
  refine y_bipush dX1_init_17 (by decide) ?_
  refine y_bipush dX1_init_19 (by decide) ?_
  refine y_mna (K := 100) (K2 := 126) (cs2 := (52, 1250)) 25 24 zk_X1_9 za_int (by decide) (by decide) (by decide) (by decide) (by decide) (by decide) (by decide) ⟨Nat.le_of_ble_eq_true rfl, Nat.le_of_ble_eq_true rfl⟩ rfl rfl dX1_init_21 ?_
  refine y_putF (k := 73) 2 [.null, .ref (x.2.2.1 + 74), .ref (x.2.2.1 + 100), .null, .null, .null, .null, .null, .null, .null, .null] (by decide) rfl (Nat.le_of_ble_eq_true rfl) rfl rfl (by decide) inT1 fl_X1_16 tyX1 tyX1_ok nmX1 rfl (fun _ _ h => h) rfl rfl rfl dX1_init_25 ?_
  refine y_aload_n 0 rfl dX1_init_28 ?_
  refine y_bipush dX1_init_29 (by decide) ?_
  refine y_bipush dX1_init_31 (by decide) ?_
  refine y_mna (K := 126) (K2 := 152) (cs2 := (78, 1875)) 25 24 zk_X1_9 za_int (by decide) (by decide) (by decide) (by decide) (by decide) (by decide) (by decide) ⟨Nat.le_of_ble_eq_true rfl, Nat.le_of_ble_eq_true rfl⟩ rfl rfl dX1_init_33 ?_
  refine y_putF (k := 73) 3 [.null, .ref (x.2.2.1 + 74), .ref (x.2.2.1 + 100), .ref (x.2.2.1 + 126), .null, .null, .null, .null, .null, .null, .null] (by decide) rfl (Nat.le_of_ble_eq_true rfl) rfl rfl (by decide) inT1 fl_X1_19 tyX1 tyX1_ok nmX1 rfl (fun _ _ h => h) rfl rfl rfl dX1_init_37 ?_
  refine y_aload_n 0 rfl dX1_init_40 ?_
  refine y_bipush dX1_init_41 (by decide) ?_
  refine y_bipush dX1_init_43 (by decide) ?_
  refine y_mna (K := 152) (K2 := 178) (cs2 := (104, 2500)) 25 24 zk_X1_9 za_int (by decide) (by decide) (by decide) (by decide) (by decide) (by decide) (by decide) ⟨Nat.le_of_ble_eq_true rfl, Nat.le_of_ble_eq_true rfl⟩ rfl rfl dX1_init_45 ?_
  refine y_putF (k := 73) 4 [.null, .ref (x.2.2.1 + 74), .ref (x.2.2.1 + 100), .ref (x.2.2.1 + 126), .ref (x.2.2.1 + 152), .null, .null, .null, .null, .null, .null] (by decide) rfl (Nat.le_of_ble_eq_true rfl) rfl rfl (by decide) inT1 fl_X1_22 tyX1 tyX1_ok nmX1 rfl (fun _ _ h => h) rfl rfl rfl dX1_init_49 ?_
  refine y_aload_n 0 rfl dX1_init_52 ?_
  refine y_bipush dX1_init_53 (by decide) ?_
  refine y_newI (K := 178) (K2 := 179) (cs2 := (105, 2525)) 25 za_int (by decide) (by decide) (by decide) ⟨Nat.le_of_ble_eq_true rfl, Nat.le_of_ble_eq_true rfl⟩ rfl rfl dX1_init_55 ?_
  refine y_putF (k := 73) 5 [.null, .ref (x.2.2.1 + 74), .ref (x.2.2.1 + 100), .ref (x.2.2.1 + 126), .ref (x.2.2.1 + 152), .ref (x.2.2.1 + 178), .null, .null, .null, .null, .null] (by decide) rfl (Nat.le_of_ble_eq_true rfl) rfl rfl (by decide) inT1 fl_X1_25 tyX1 tyX1_ok nmX1 rfl (fun _ _ h => h) rfl rfl rfl dX1_init_57 ?_
  refine y_aload_n 0 rfl dX1_init_60 ?_
  refine y_bipush dX1_init_61 (by decide) ?_
  refine y_bipush dX1_init_63 (by decide) ?_
  refine y_mna (K := 179) (K2 := 204) (cs2 := (130, 3149)) 24 25 zk_X1_9 za_int (by decide) (by decide) (by decide) (by decide) (by decide) (by decide) (by decide) ⟨Nat.le_of_ble_eq_true rfl, Nat.le_of_ble_eq_true rfl⟩ rfl rfl dX1_init_65 ?_
  refine y_putF (k := 73) 6 [.null, .ref (x.2.2.1 + 74), .ref (x.2.2.1 + 100), .ref (x.2.2.1 + 126), .ref (x.2.2.1 + 152), .ref (x.2.2.1 + 178), .ref (x.2.2.1 + 179), .null, .null, .null, .null] (by decide) rfl (Nat.le_of_ble_eq_true rfl) rfl rfl (by decide) inT1 fl_X1_29 tyX1 tyX1_ok nmX1 rfl (fun _ _ h => h) rfl rfl rfl dX1_init_69 ?_
  refine y_aload_n 0 rfl dX1_init_72 ?_
  refine y_bipush dX1_init_73 (by decide) ?_
  refine y_newI (K := 204) (K2 := 205) (cs2 := (131, 3173)) 24 za_int (by decide) (by decide) (by decide) ⟨Nat.le_of_ble_eq_true rfl, Nat.le_of_ble_eq_true rfl⟩ rfl rfl dX1_init_75 ?_
  refine y_putF (k := 73) 7 [.null, .ref (x.2.2.1 + 74), .ref (x.2.2.1 + 100), .ref (x.2.2.1 + 126), .ref (x.2.2.1 + 152), .ref (x.2.2.1 + 178), .ref (x.2.2.1 + 179), .ref (x.2.2.1 + 204), .null, .null, .null] (by decide) rfl (Nat.le_of_ble_eq_true rfl) rfl rfl (by decide) inT1 fl_X1_32 tyX1 tyX1_ok nmX1 rfl (fun _ _ h => h) rfl rfl rfl dX1_init_77 ?_
  refine y_aload_n 0 rfl dX1_init_80 ?_
  refine y_bipush dX1_init_81 (by decide) ?_
  refine y_newI (K := 205) (K2 := 206) (cs2 := (132, 3198)) 25 za_int (by decide) (by decide) (by decide) ⟨Nat.le_of_ble_eq_true rfl, Nat.le_of_ble_eq_true rfl⟩ rfl rfl dX1_init_83 ?_
  refine y_putF (k := 73) 8 [.null, .ref (x.2.2.1 + 74), .ref (x.2.2.1 + 100), .ref (x.2.2.1 + 126), .ref (x.2.2.1 + 152), .ref (x.2.2.1 + 178), .ref (x.2.2.1 + 179), .ref (x.2.2.1 + 204), .ref (x.2.2.1 + 205), .null, .null] (by decide) rfl (Nat.le_of_ble_eq_true rfl) rfl rfl (by decide) inT1 fl_X1_35 tyX1 tyX1_ok nmX1 rfl (fun _ _ h => h) rfl rfl rfl dX1_init_85 ?_
  refine y_aload_n 0 rfl dX1_init_88 ?_
  refine y_bipush dX1_init_89 (by decide) ?_
  refine y_newI (K := 206) (K2 := 207) (cs2 := (133, 3223)) 25 za_int (by decide) (by decide) (by decide) ⟨Nat.le_of_ble_eq_true rfl, Nat.le_of_ble_eq_true rfl⟩ rfl rfl dX1_init_91 ?_
  refine y_putF (k := 73) 9 [.null, .ref (x.2.2.1 + 74), .ref (x.2.2.1 + 100), .ref (x.2.2.1 + 126), .ref (x.2.2.1 + 152), .ref (x.2.2.1 + 178), .ref (x.2.2.1 + 179), .ref (x.2.2.1 + 204), .ref (x.2.2.1 + 205), .ref (x.2.2.1 + 206), .null] (by decide) rfl (Nat.le_of_ble_eq_true rfl) rfl rfl (by decide) inT1 fl_X1_38 tyX1 tyX1_ok nmX1 rfl (fun _ _ h => h) rfl rfl rfl dX1_init_93 ?_
  refine y_aload_n 0 rfl dX1_init_96 ?_
  refine y_bipush dX1_init_97 (by decide) ?_
  refine y_newI (K := 207) (K2 := 208) (cs2 := (134, 3248)) 25 za_int (by decide) (by decide) (by decide) ⟨Nat.le_of_ble_eq_true rfl, Nat.le_of_ble_eq_true rfl⟩ rfl rfl dX1_init_99 ?_
  refine y_putF (k := 73) 10 [.null, .ref (x.2.2.1 + 74), .ref (x.2.2.1 + 100), .ref (x.2.2.1 + 126), .ref (x.2.2.1 + 152), .ref (x.2.2.1 + 178), .ref (x.2.2.1 + 179), .ref (x.2.2.1 + 204), .ref (x.2.2.1 + 205), .ref (x.2.2.1 + 206), .ref (x.2.2.1 + 207)] (by decide) rfl (Nat.le_of_ble_eq_true rfl) rfl rfl (by decide) inT1 fl_X1_41 tyX1 tyX1_ok nmX1 rfl (fun _ _ h => h) rfl rfl rfl dX1_init_101 ?_
  refine y_aload_n 0 rfl dX1_init_104 ?_
  refine y_aload_n 1 rfl dX1_init_105 ?_
  refine y_putF (k := 73) 0 [.ref (x.2.2.1 + 39), .ref (x.2.2.1 + 74), .ref (x.2.2.1 + 100), .ref (x.2.2.1 + 126), .ref (x.2.2.1 + 152), .ref (x.2.2.1 + 178), .ref (x.2.2.1 + 179), .ref (x.2.2.1 + 204), .ref (x.2.2.1 + 205), .ref (x.2.2.1 + 206), .ref (x.2.2.1 + 207)] (by decide) rfl (Nat.le_of_ble_eq_true rfl) rfl rfl (by decide) inT1 fl_X1_44 tyX1 tyX1_ok nmX1 rfl (fun _ _ h => h) rfl rfl rfl dX1_init_106 ?_
  exact y_vret rfl dX1_init_109
def ze_3_208 (x : xX) (E : Nat → va_E) : Nat → va_E := uE (uE (uE (uE (uE (uE (E) 209 (.inl (x.2.1.1 100, 24, .inl (fun _ => Int32.ofInt 0)))) 208 (.inr (3, [.null, .null, .ref (x.2.2.1 + 209), .null]))) 210 (.inl (x.2.1.1 100, 24, .inl (fun _ => Int32.ofInt 0)))) 208 (.inr (3, [.null, .null, .ref (x.2.2.1 + 209), .ref (x.2.2.1 + 210)]))) 208 (.inr (3, [.ref (x.2.2.1 + 39), .null, .ref (x.2.2.1 + 209), .ref (x.2.2.1 + 210)]))) 208 (.inr (3, [.ref (x.2.2.1 + 39), .ref (x.2.2.1 + 73), .ref (x.2.2.1 + 209), .ref (x.2.2.1 + 210)]))
set_option maxRecDepth 100000 in
set_option maxHeartbeats 8000000 in
theorem zt_3_208 (x : xX) (E : Nat → va_E) (hE : E 208 = .inr (3, [.null, .null, .null, .null])) : yMet x 1 yX3_init cX3_init 3 [.ref (x.2.2.1 + 208), .ref (x.2.2.1 + 39), .ref (x.2.2.1 + 73)] 2 48 209 E 211 (ze_3_208 x E) := by
  refine yMet_of (by decide +kernel) (Nat.le_of_ble_eq_true rfl) yI (fun _ _ h => h) ?_
  show yGr x (yRm 1 2 48, RX3, cX3_init, 3, none, yI) (0, 0) (yFin x (yQ x 211 (ze_3_208 x E)) 2 48) (yR x 209 E) 0 [(0, .ref (x.2.2.1 + 208)), (1, .ref (x.2.2.1 + 39)), (2, .ref (x.2.2.1 + 73))] []
  refine y_aload_n 0 rfl dX3_init_0 ?_
  refine y_obj zl_X3_3 zo_ins zo_code ⟨Nat.le_of_ble_eq_true rfl, Nat.le_of_ble_eq_true rfl⟩ (Nat.le_of_ble_eq_true rfl) dX3_init_1 ?_
  refine y_aload_n 0 rfl dX3_init_4 ?_
  refine y_bipush dX3_init_5 (by decide) ?_
  refine y_newI (K := 209) (K2 := 210) (cs2 := (1, 24)) 24 za_int (by decide) (by decide) (by decide) ⟨Nat.le_of_ble_eq_true rfl, Nat.le_of_ble_eq_true rfl⟩ rfl rfl dX3_init_7 ?_
  refine y_putF (k := 208) 2 [.null, .null, .ref (x.2.2.1 + 209), .null] (by decide) hE (Nat.le_of_ble_eq_true rfl) rfl rfl (by decide) inT3 fl_X3_9 tyX3 tyX3_ok nmX3 rfl (fun _ _ h => h) rfl rfl rfl dX3_init_9 ?_
  refine y_aload_n 0 rfl dX3_init_12 ?_
  refine y_bipush dX3_init_13 (by decide) ?_
  refine y_newI (K := 210) (K2 := 211) (cs2 := (2, 48)) 24 za_int (by decide) (by decide) (by decide) ⟨Nat.le_of_ble_eq_true rfl, Nat.le_of_ble_eq_true rfl⟩ rfl rfl dX3_init_15 ?_
  refine y_putF (k := 208) 3 [.null, .null, .ref (x.2.2.1 + 209), .ref (x.2.2.1 + 210)] (by decide) rfl (Nat.le_of_ble_eq_true rfl) rfl rfl (by decide) inT3 fl_X3_15 tyX3 tyX3_ok nmX3 rfl (fun _ _ h => h) rfl rfl rfl dX3_init_17 ?_
  refine y_aload_n 0 rfl dX3_init_20 ?_
  refine y_aload_n 1 rfl dX3_init_21 ?_
  refine y_putF (k := 208) 0 [.ref (x.2.2.1 + 39), .null, .ref (x.2.2.1 + 209), .ref (x.2.2.1 + 210)] (by decide) rfl (Nat.le_of_ble_eq_true rfl) rfl rfl (by decide) inT3 fl_X3_18 tyX3 tyX3_ok nmX3 rfl (fun _ _ h => h) rfl rfl rfl dX3_init_22 ?_
  refine y_aload_n 0 rfl dX3_init_25 ?_
  refine y_aload_n 2 rfl dX3_init_26 ?_
  refine y_putF (k := 208) 1 [.ref (x.2.2.1 + 39), .ref (x.2.2.1 + 73), .ref (x.2.2.1 + 209), .ref (x.2.2.1 + 210)] (by decide) rfl (Nat.le_of_ble_eq_true rfl) rfl rfl (by decide) inT3 fl_X3_22 tyX3 tyX3_ok nmX3 rfl (fun _ _ h => h) rfl rfl rfl dX3_init_27 ?_
  exact y_vret rfl dX3_init_30
def ze_9_211 (x : xX) (E : Nat → va_E) : Nat → va_E := uE (uE (uE (uE (uE (uE (uE (uE (uE (E) 212 (.inl (x.2.1.1 100, 26, .inl (fun _ => Int32.ofInt 0)))) 211 (.inr (9, [iV 0, iV 0, iV 0, iV 0, iV 0, iV 0, .null, .ref (x.2.2.1 + 212), .null, .null, .null, iV 0, iV 0, iV 0, iV 0, iV 0, iV 0, iV 0]))) 213 (.inl (x.2.1.1 100, 24, .inl (fun _ => Int32.ofInt 0)))) 211 (.inr (9, [iV 0, iV 0, iV 0, iV 0, iV 0, iV 0, .null, .ref (x.2.2.1 + 212), .ref (x.2.2.1 + 213), .null, .null, iV 0, iV 0, iV 0, iV 0, iV 0, iV 0, iV 0]))) 214 (.inl (x.2.1.1 100, 3, .inl (fun _ => Int32.ofInt 0)))) 211 (.inr (9, [iV 0, iV 0, iV 0, iV 0, iV 0, iV 0, .null, .ref (x.2.2.1 + 212), .ref (x.2.2.1 + 213), .ref (x.2.2.1 + 214), .null, iV 0, iV 0, iV 0, iV 0, iV 0, iV 0, iV 0]))) 215 (.inl (x.2.1.1 100, 3, .inl (fun _ => Int32.ofInt 0)))) 211 (.inr (9, [iV 0, iV 0, iV 0, iV 0, iV 0, iV 0, .null, .ref (x.2.2.1 + 212), .ref (x.2.2.1 + 213), .ref (x.2.2.1 + 214), .ref (x.2.2.1 + 215), iV 0, iV 0, iV 0, iV 0, iV 0, iV 0, iV 0]))) 211 (.inr (9, [iV 0, iV 0, iV 0, iV 0, iV 0, iV 0, .ref (x.2.2.1 + 39), .ref (x.2.2.1 + 212), .ref (x.2.2.1 + 213), .ref (x.2.2.1 + 214), .ref (x.2.2.1 + 215), iV 0, iV 0, iV 0, iV 0, iV 0, iV 0, iV 0]))
set_option maxRecDepth 100000 in
set_option maxHeartbeats 8000000 in
theorem zt_9_211 (x : xX) (E : Nat → va_E) (hE : E 211 = .inr (9, [iV 0, iV 0, iV 0, iV 0, iV 0, iV 0, .null, .null, .null, .null, .null, iV 0, iV 0, iV 0, iV 0, iV 0, iV 0, iV 0])) : yMet x 1 yX9_init cX9_init 2 [.ref (x.2.2.1 + 211), .ref (x.2.2.1 + 39)] 4 56 212 E 216 (ze_9_211 x E) := by
  refine yMet_of (by decide +kernel) (Nat.le_of_ble_eq_true rfl) yI (fun _ _ h => h) ?_
  show yGr x (yRm 1 4 56, RX9, cX9_init, 2, none, yI) (0, 0) (yFin x (yQ x 216 (ze_9_211 x E)) 4 56) (yR x 212 E) 0 [(0, .ref (x.2.2.1 + 211)), (1, .ref (x.2.2.1 + 39))] []
  refine y_aload_n 0 rfl dX9_init_0 ?_
  refine y_obj zl_X9_3 zo_ins zo_code ⟨Nat.le_of_ble_eq_true rfl, Nat.le_of_ble_eq_true rfl⟩ (Nat.le_of_ble_eq_true rfl) dX9_init_1 ?_
  refine y_aload_n 0 rfl dX9_init_4 ?_
  refine y_bipush dX9_init_5 (by decide) ?_
  refine y_newI (K := 212) (K2 := 213) (cs2 := (1, 26)) 26 za_int (by decide) (by decide) (by decide) ⟨Nat.le_of_ble_eq_true rfl, Nat.le_of_ble_eq_true rfl⟩ rfl rfl dX9_init_7 ?_
  refine y_putF (k := 211) 7 [iV 0, iV 0, iV 0, iV 0, iV 0, iV 0, .null, .ref (x.2.2.1 + 212), .null, .null, .null, iV 0, iV 0, iV 0, iV 0, iV 0, iV 0, iV 0] (by decide) hE (Nat.le_of_ble_eq_true rfl) rfl rfl (by decide) inT9 fl_X9_9 tyX9 tyX9_ok nmX9 rfl (fun _ _ h => h) rfl rfl rfl dX9_init_9 ?_
  refine y_aload_n 0 rfl dX9_init_12 ?_
  refine y_bipush dX9_init_13 (by decide) ?_
  refine y_newI (K := 213) (K2 := 214) (cs2 := (2, 50)) 24 za_int (by decide) (by decide) (by decide) ⟨Nat.le_of_ble_eq_true rfl, Nat.le_of_ble_eq_true rfl⟩ rfl rfl dX9_init_15 ?_
  refine y_putF (k := 211) 8 [iV 0, iV 0, iV 0, iV 0, iV 0, iV 0, .null, .ref (x.2.2.1 + 212), .ref (x.2.2.1 + 213), .null, .null, iV 0, iV 0, iV 0, iV 0, iV 0, iV 0, iV 0] (by decide) rfl (Nat.le_of_ble_eq_true rfl) rfl rfl (by decide) inT9 fl_X9_15 tyX9 tyX9_ok nmX9 rfl (fun _ _ h => h) rfl rfl rfl dX9_init_17 ?_
  refine y_aload_n 0 rfl dX9_init_20 ?_
  refine y_iconst dX9_init_21 ?_
  refine y_newI (K := 214) (K2 := 215) (cs2 := (3, 53)) 3 za_int (by decide) (by decide) (by decide) ⟨Nat.le_of_ble_eq_true rfl, Nat.le_of_ble_eq_true rfl⟩ rfl rfl dX9_init_22 ?_
  refine y_putF (k := 211) 9 [iV 0, iV 0, iV 0, iV 0, iV 0, iV 0, .null, .ref (x.2.2.1 + 212), .ref (x.2.2.1 + 213), .ref (x.2.2.1 + 214), .null, iV 0, iV 0, iV 0, iV 0, iV 0, iV 0, iV 0] (by decide) rfl (Nat.le_of_ble_eq_true rfl) rfl rfl (by decide) inT9 fl_X9_18 tyX9 tyX9_ok nmX9 rfl (fun _ _ h => h) rfl rfl rfl dX9_init_24 ?_
  refine y_aload_n 0 rfl dX9_init_27 ?_
  refine y_iconst dX9_init_28 ?_
  refine y_newI (K := 215) (K2 := 216) (cs2 := (4, 56)) 3 za_int (by decide) (by decide) (by decide) ⟨Nat.le_of_ble_eq_true rfl, Nat.le_of_ble_eq_true rfl⟩ rfl rfl dX9_init_29 ?_
  refine y_putF (k := 211) 10 [iV 0, iV 0, iV 0, iV 0, iV 0, iV 0, .null, .ref (x.2.2.1 + 212), .ref (x.2.2.1 + 213), .ref (x.2.2.1 + 214), .ref (x.2.2.1 + 215), iV 0, iV 0, iV 0, iV 0, iV 0, iV 0, iV 0] (by decide) rfl (Nat.le_of_ble_eq_true rfl) rfl rfl (by decide) inT9 fl_X9_21 tyX9 tyX9_ok nmX9 rfl (fun _ _ h => h) rfl rfl rfl dX9_init_31 ?_
  refine y_aload_n 0 rfl dX9_init_34 ?_
  refine y_aload_n 1 rfl dX9_init_35 ?_
  refine y_putF (k := 211) 6 [iV 0, iV 0, iV 0, iV 0, iV 0, iV 0, .ref (x.2.2.1 + 39), .ref (x.2.2.1 + 212), .ref (x.2.2.1 + 213), .ref (x.2.2.1 + 214), .ref (x.2.2.1 + 215), iV 0, iV 0, iV 0, iV 0, iV 0, iV 0, iV 0] (by decide) rfl (Nat.le_of_ble_eq_true rfl) rfl rfl (by decide) inT9 fl_X9_24 tyX9 tyX9_ok nmX9 rfl (fun _ _ h => h) rfl rfl rfl dX9_init_36 ?_
  exact y_vret rfl dX9_init_39
def ze_9_216 (x : xX) (E : Nat → va_E) : Nat → va_E := uE (uE (uE (uE (uE (uE (uE (uE (uE (E) 217 (.inl (x.2.1.1 100, 26, .inl (fun _ => Int32.ofInt 0)))) 216 (.inr (9, [iV 0, iV 0, iV 0, iV 0, iV 0, iV 0, .null, .ref (x.2.2.1 + 217), .null, .null, .null, iV 0, iV 0, iV 0, iV 0, iV 0, iV 0, iV 0]))) 218 (.inl (x.2.1.1 100, 24, .inl (fun _ => Int32.ofInt 0)))) 216 (.inr (9, [iV 0, iV 0, iV 0, iV 0, iV 0, iV 0, .null, .ref (x.2.2.1 + 217), .ref (x.2.2.1 + 218), .null, .null, iV 0, iV 0, iV 0, iV 0, iV 0, iV 0, iV 0]))) 219 (.inl (x.2.1.1 100, 3, .inl (fun _ => Int32.ofInt 0)))) 216 (.inr (9, [iV 0, iV 0, iV 0, iV 0, iV 0, iV 0, .null, .ref (x.2.2.1 + 217), .ref (x.2.2.1 + 218), .ref (x.2.2.1 + 219), .null, iV 0, iV 0, iV 0, iV 0, iV 0, iV 0, iV 0]))) 220 (.inl (x.2.1.1 100, 3, .inl (fun _ => Int32.ofInt 0)))) 216 (.inr (9, [iV 0, iV 0, iV 0, iV 0, iV 0, iV 0, .null, .ref (x.2.2.1 + 217), .ref (x.2.2.1 + 218), .ref (x.2.2.1 + 219), .ref (x.2.2.1 + 220), iV 0, iV 0, iV 0, iV 0, iV 0, iV 0, iV 0]))) 216 (.inr (9, [iV 0, iV 0, iV 0, iV 0, iV 0, iV 0, .ref (x.2.2.1 + 39), .ref (x.2.2.1 + 217), .ref (x.2.2.1 + 218), .ref (x.2.2.1 + 219), .ref (x.2.2.1 + 220), iV 0, iV 0, iV 0, iV 0, iV 0, iV 0, iV 0]))
set_option maxRecDepth 100000 in
set_option maxHeartbeats 8000000 in
theorem zt_9_216 (x : xX) (E : Nat → va_E) (hE : E 216 = .inr (9, [iV 0, iV 0, iV 0, iV 0, iV 0, iV 0, .null, .null, .null, .null, .null, iV 0, iV 0, iV 0, iV 0, iV 0, iV 0, iV 0])) : yMet x 1 yX9_init cX9_init 2 [.ref (x.2.2.1 + 216), .ref (x.2.2.1 + 39)] 4 56 217 E 221 (ze_9_216 x E) := by
  refine yMet_of (by decide +kernel) (Nat.le_of_ble_eq_true rfl) yI (fun _ _ h => h) ?_
  show yGr x (yRm 1 4 56, RX9, cX9_init, 2, none, yI) (0, 0) (yFin x (yQ x 221 (ze_9_216 x E)) 4 56) (yR x 217 E) 0 [(0, .ref (x.2.2.1 + 216)), (1, .ref (x.2.2.1 + 39))] []
  refine y_aload_n 0 rfl dX9_init_0 ?_
  refine y_obj zl_X9_3 zo_ins zo_code ⟨Nat.le_of_ble_eq_true rfl, Nat.le_of_ble_eq_true rfl⟩ (Nat.le_of_ble_eq_true rfl) dX9_init_1 ?_
  refine y_aload_n 0 rfl dX9_init_4 ?_
  refine y_bipush dX9_init_5 (by decide) ?_
  refine y_newI (K := 217) (K2 := 218) (cs2 := (1, 26)) 26 za_int (by decide) (by decide) (by decide) ⟨Nat.le_of_ble_eq_true rfl, Nat.le_of_ble_eq_true rfl⟩ rfl rfl dX9_init_7 ?_
  refine y_putF (k := 216) 7 [iV 0, iV 0, iV 0, iV 0, iV 0, iV 0, .null, .ref (x.2.2.1 + 217), .null, .null, .null, iV 0, iV 0, iV 0, iV 0, iV 0, iV 0, iV 0] (by decide) hE (Nat.le_of_ble_eq_true rfl) rfl rfl (by decide) inT9 fl_X9_9 tyX9 tyX9_ok nmX9 rfl (fun _ _ h => h) rfl rfl rfl dX9_init_9 ?_
  refine y_aload_n 0 rfl dX9_init_12 ?_
  refine y_bipush dX9_init_13 (by decide) ?_
  refine y_newI (K := 218) (K2 := 219) (cs2 := (2, 50)) 24 za_int (by decide) (by decide) (by decide) ⟨Nat.le_of_ble_eq_true rfl, Nat.le_of_ble_eq_true rfl⟩ rfl rfl dX9_init_15 ?_
  refine y_putF (k := 216) 8 [iV 0, iV 0, iV 0, iV 0, iV 0, iV 0, .null, .ref (x.2.2.1 + 217), .ref (x.2.2.1 + 218), .null, .null, iV 0, iV 0, iV 0, iV 0, iV 0, iV 0, iV 0] (by decide) rfl (Nat.le_of_ble_eq_true rfl) rfl rfl (by decide) inT9 fl_X9_15 tyX9 tyX9_ok nmX9 rfl (fun _ _ h => h) rfl rfl rfl dX9_init_17 ?_
  refine y_aload_n 0 rfl dX9_init_20 ?_
  refine y_iconst dX9_init_21 ?_
  refine y_newI (K := 219) (K2 := 220) (cs2 := (3, 53)) 3 za_int (by decide) (by decide) (by decide) ⟨Nat.le_of_ble_eq_true rfl, Nat.le_of_ble_eq_true rfl⟩ rfl rfl dX9_init_22 ?_
  refine y_putF (k := 216) 9 [iV 0, iV 0, iV 0, iV 0, iV 0, iV 0, .null, .ref (x.2.2.1 + 217), .ref (x.2.2.1 + 218), .ref (x.2.2.1 + 219), .null, iV 0, iV 0, iV 0, iV 0, iV 0, iV 0, iV 0] (by decide) rfl (Nat.le_of_ble_eq_true rfl) rfl rfl (by decide) inT9 fl_X9_18 tyX9 tyX9_ok nmX9 rfl (fun _ _ h => h) rfl rfl rfl dX9_init_24 ?_
  refine y_aload_n 0 rfl dX9_init_27 ?_
  refine y_iconst dX9_init_28 ?_
  refine y_newI (K := 220) (K2 := 221) (cs2 := (4, 56)) 3 za_int (by decide) (by decide) (by decide) ⟨Nat.le_of_ble_eq_true rfl, Nat.le_of_ble_eq_true rfl⟩ rfl rfl dX9_init_29 ?_
  refine y_putF (k := 216) 10 [iV 0, iV 0, iV 0, iV 0, iV 0, iV 0, .null, .ref (x.2.2.1 + 217), .ref (x.2.2.1 + 218), .ref (x.2.2.1 + 219), .ref (x.2.2.1 + 220), iV 0, iV 0, iV 0, iV 0, iV 0, iV 0, iV 0] (by decide) rfl (Nat.le_of_ble_eq_true rfl) rfl rfl (by decide) inT9 fl_X9_21 tyX9 tyX9_ok nmX9 rfl (fun _ _ h => h) rfl rfl rfl dX9_init_31 ?_
  refine y_aload_n 0 rfl dX9_init_34 ?_
  refine y_aload_n 1 rfl dX9_init_35 ?_
  refine y_putF (k := 216) 6 [iV 0, iV 0, iV 0, iV 0, iV 0, iV 0, .ref (x.2.2.1 + 39), .ref (x.2.2.1 + 217), .ref (x.2.2.1 + 218), .ref (x.2.2.1 + 219), .ref (x.2.2.1 + 220), iV 0, iV 0, iV 0, iV 0, iV 0, iV 0, iV 0] (by decide) rfl (Nat.le_of_ble_eq_true rfl) rfl rfl (by decide) inT9 fl_X9_24 tyX9 tyX9_ok nmX9 rfl (fun _ _ h => h) rfl rfl rfl dX9_init_36 ?_
  exact y_vret rfl dX9_init_39
def ze_9_221 (x : xX) (E : Nat → va_E) : Nat → va_E := uE (uE (uE (uE (uE (uE (uE (uE (uE (E) 222 (.inl (x.2.1.1 100, 26, .inl (fun _ => Int32.ofInt 0)))) 221 (.inr (9, [iV 0, iV 0, iV 0, iV 0, iV 0, iV 0, .null, .ref (x.2.2.1 + 222), .null, .null, .null, iV 0, iV 0, iV 0, iV 0, iV 0, iV 0, iV 0]))) 223 (.inl (x.2.1.1 100, 24, .inl (fun _ => Int32.ofInt 0)))) 221 (.inr (9, [iV 0, iV 0, iV 0, iV 0, iV 0, iV 0, .null, .ref (x.2.2.1 + 222), .ref (x.2.2.1 + 223), .null, .null, iV 0, iV 0, iV 0, iV 0, iV 0, iV 0, iV 0]))) 224 (.inl (x.2.1.1 100, 3, .inl (fun _ => Int32.ofInt 0)))) 221 (.inr (9, [iV 0, iV 0, iV 0, iV 0, iV 0, iV 0, .null, .ref (x.2.2.1 + 222), .ref (x.2.2.1 + 223), .ref (x.2.2.1 + 224), .null, iV 0, iV 0, iV 0, iV 0, iV 0, iV 0, iV 0]))) 225 (.inl (x.2.1.1 100, 3, .inl (fun _ => Int32.ofInt 0)))) 221 (.inr (9, [iV 0, iV 0, iV 0, iV 0, iV 0, iV 0, .null, .ref (x.2.2.1 + 222), .ref (x.2.2.1 + 223), .ref (x.2.2.1 + 224), .ref (x.2.2.1 + 225), iV 0, iV 0, iV 0, iV 0, iV 0, iV 0, iV 0]))) 221 (.inr (9, [iV 0, iV 0, iV 0, iV 0, iV 0, iV 0, .ref (x.2.2.1 + 39), .ref (x.2.2.1 + 222), .ref (x.2.2.1 + 223), .ref (x.2.2.1 + 224), .ref (x.2.2.1 + 225), iV 0, iV 0, iV 0, iV 0, iV 0, iV 0, iV 0]))
set_option maxRecDepth 100000 in
set_option maxHeartbeats 8000000 in
theorem zt_9_221 (x : xX) (E : Nat → va_E) (hE : E 221 = .inr (9, [iV 0, iV 0, iV 0, iV 0, iV 0, iV 0, .null, .null, .null, .null, .null, iV 0, iV 0, iV 0, iV 0, iV 0, iV 0, iV 0])) : yMet x 1 yX9_init cX9_init 2 [.ref (x.2.2.1 + 221), .ref (x.2.2.1 + 39)] 4 56 222 E 226 (ze_9_221 x E) := by
  refine yMet_of (by decide +kernel) (Nat.le_of_ble_eq_true rfl) yI (fun _ _ h => h) ?_
  show yGr x (yRm 1 4 56, RX9, cX9_init, 2, none, yI) (0, 0) (yFin x (yQ x 226 (ze_9_221 x E)) 4 56) (yR x 222 E) 0 [(0, .ref (x.2.2.1 + 221)), (1, .ref (x.2.2.1 + 39))] []
  refine y_aload_n 0 rfl dX9_init_0 ?_
  refine y_obj zl_X9_3 zo_ins zo_code ⟨Nat.le_of_ble_eq_true rfl, Nat.le_of_ble_eq_true rfl⟩ (Nat.le_of_ble_eq_true rfl) dX9_init_1 ?_
  refine y_aload_n 0 rfl dX9_init_4 ?_
  refine y_bipush dX9_init_5 (by decide) ?_
  refine y_newI (K := 222) (K2 := 223) (cs2 := (1, 26)) 26 za_int (by decide) (by decide) (by decide) ⟨Nat.le_of_ble_eq_true rfl, Nat.le_of_ble_eq_true rfl⟩ rfl rfl dX9_init_7 ?_
  refine y_putF (k := 221) 7 [iV 0, iV 0, iV 0, iV 0, iV 0, iV 0, .null, .ref (x.2.2.1 + 222), .null, .null, .null, iV 0, iV 0, iV 0, iV 0, iV 0, iV 0, iV 0] (by decide) hE (Nat.le_of_ble_eq_true rfl) rfl rfl (by decide) inT9 fl_X9_9 tyX9 tyX9_ok nmX9 rfl (fun _ _ h => h) rfl rfl rfl dX9_init_9 ?_
  refine y_aload_n 0 rfl dX9_init_12 ?_
  refine y_bipush dX9_init_13 (by decide) ?_
  refine y_newI (K := 223) (K2 := 224) (cs2 := (2, 50)) 24 za_int (by decide) (by decide) (by decide) ⟨Nat.le_of_ble_eq_true rfl, Nat.le_of_ble_eq_true rfl⟩ rfl rfl dX9_init_15 ?_
  refine y_putF (k := 221) 8 [iV 0, iV 0, iV 0, iV 0, iV 0, iV 0, .null, .ref (x.2.2.1 + 222), .ref (x.2.2.1 + 223), .null, .null, iV 0, iV 0, iV 0, iV 0, iV 0, iV 0, iV 0] (by decide) rfl (Nat.le_of_ble_eq_true rfl) rfl rfl (by decide) inT9 fl_X9_15 tyX9 tyX9_ok nmX9 rfl (fun _ _ h => h) rfl rfl rfl dX9_init_17 ?_
  refine y_aload_n 0 rfl dX9_init_20 ?_
  refine y_iconst dX9_init_21 ?_
  refine y_newI (K := 224) (K2 := 225) (cs2 := (3, 53)) 3 za_int (by decide) (by decide) (by decide) ⟨Nat.le_of_ble_eq_true rfl, Nat.le_of_ble_eq_true rfl⟩ rfl rfl dX9_init_22 ?_
  refine y_putF (k := 221) 9 [iV 0, iV 0, iV 0, iV 0, iV 0, iV 0, .null, .ref (x.2.2.1 + 222), .ref (x.2.2.1 + 223), .ref (x.2.2.1 + 224), .null, iV 0, iV 0, iV 0, iV 0, iV 0, iV 0, iV 0] (by decide) rfl (Nat.le_of_ble_eq_true rfl) rfl rfl (by decide) inT9 fl_X9_18 tyX9 tyX9_ok nmX9 rfl (fun _ _ h => h) rfl rfl rfl dX9_init_24 ?_
  refine y_aload_n 0 rfl dX9_init_27 ?_
  refine y_iconst dX9_init_28 ?_
  refine y_newI (K := 225) (K2 := 226) (cs2 := (4, 56)) 3 za_int (by decide) (by decide) (by decide) ⟨Nat.le_of_ble_eq_true rfl, Nat.le_of_ble_eq_true rfl⟩ rfl rfl dX9_init_29 ?_
  refine y_putF (k := 221) 10 [iV 0, iV 0, iV 0, iV 0, iV 0, iV 0, .null, .ref (x.2.2.1 + 222), .ref (x.2.2.1 + 223), .ref (x.2.2.1 + 224), .ref (x.2.2.1 + 225), iV 0, iV 0, iV 0, iV 0, iV 0, iV 0, iV 0] (by decide) rfl (Nat.le_of_ble_eq_true rfl) rfl rfl (by decide) inT9 fl_X9_21 tyX9 tyX9_ok nmX9 rfl (fun _ _ h => h) rfl rfl rfl dX9_init_31 ?_
  refine y_aload_n 0 rfl dX9_init_34 ?_
  refine y_aload_n 1 rfl dX9_init_35 ?_
  refine y_putF (k := 221) 6 [iV 0, iV 0, iV 0, iV 0, iV 0, iV 0, .ref (x.2.2.1 + 39), .ref (x.2.2.1 + 222), .ref (x.2.2.1 + 223), .ref (x.2.2.1 + 224), .ref (x.2.2.1 + 225), iV 0, iV 0, iV 0, iV 0, iV 0, iV 0, iV 0] (by decide) rfl (Nat.le_of_ble_eq_true rfl) rfl rfl (by decide) inT9 fl_X9_24 tyX9 tyX9_ok nmX9 rfl (fun _ _ h => h) rfl rfl rfl dX9_init_36 ?_
  exact y_vret rfl dX9_init_39
def ze_9_226 (x : xX) (E : Nat → va_E) : Nat → va_E := uE (uE (uE (uE (uE (uE (uE (uE (uE (E) 227 (.inl (x.2.1.1 100, 26, .inl (fun _ => Int32.ofInt 0)))) 226 (.inr (9, [iV 0, iV 0, iV 0, iV 0, iV 0, iV 0, .null, .ref (x.2.2.1 + 227), .null, .null, .null, iV 0, iV 0, iV 0, iV 0, iV 0, iV 0, iV 0]))) 228 (.inl (x.2.1.1 100, 24, .inl (fun _ => Int32.ofInt 0)))) 226 (.inr (9, [iV 0, iV 0, iV 0, iV 0, iV 0, iV 0, .null, .ref (x.2.2.1 + 227), .ref (x.2.2.1 + 228), .null, .null, iV 0, iV 0, iV 0, iV 0, iV 0, iV 0, iV 0]))) 229 (.inl (x.2.1.1 100, 3, .inl (fun _ => Int32.ofInt 0)))) 226 (.inr (9, [iV 0, iV 0, iV 0, iV 0, iV 0, iV 0, .null, .ref (x.2.2.1 + 227), .ref (x.2.2.1 + 228), .ref (x.2.2.1 + 229), .null, iV 0, iV 0, iV 0, iV 0, iV 0, iV 0, iV 0]))) 230 (.inl (x.2.1.1 100, 3, .inl (fun _ => Int32.ofInt 0)))) 226 (.inr (9, [iV 0, iV 0, iV 0, iV 0, iV 0, iV 0, .null, .ref (x.2.2.1 + 227), .ref (x.2.2.1 + 228), .ref (x.2.2.1 + 229), .ref (x.2.2.1 + 230), iV 0, iV 0, iV 0, iV 0, iV 0, iV 0, iV 0]))) 226 (.inr (9, [iV 0, iV 0, iV 0, iV 0, iV 0, iV 0, .ref (x.2.2.1 + 39), .ref (x.2.2.1 + 227), .ref (x.2.2.1 + 228), .ref (x.2.2.1 + 229), .ref (x.2.2.1 + 230), iV 0, iV 0, iV 0, iV 0, iV 0, iV 0, iV 0]))
set_option maxRecDepth 100000 in
set_option maxHeartbeats 8000000 in
theorem zt_9_226 (x : xX) (E : Nat → va_E) (hE : E 226 = .inr (9, [iV 0, iV 0, iV 0, iV 0, iV 0, iV 0, .null, .null, .null, .null, .null, iV 0, iV 0, iV 0, iV 0, iV 0, iV 0, iV 0])) : yMet x 1 yX9_init cX9_init 2 [.ref (x.2.2.1 + 226), .ref (x.2.2.1 + 39)] 4 56 227 E 231 (ze_9_226 x E) := by
  refine yMet_of (by decide +kernel) (Nat.le_of_ble_eq_true rfl) yI (fun _ _ h => h) ?_
  show yGr x (yRm 1 4 56, RX9, cX9_init, 2, none, yI) (0, 0) (yFin x (yQ x 231 (ze_9_226 x E)) 4 56) (yR x 227 E) 0 [(0, .ref (x.2.2.1 + 226)), (1, .ref (x.2.2.1 + 39))] []
  refine y_aload_n 0 rfl dX9_init_0 ?_
  refine y_obj zl_X9_3 zo_ins zo_code ⟨Nat.le_of_ble_eq_true rfl, Nat.le_of_ble_eq_true rfl⟩ (Nat.le_of_ble_eq_true rfl) dX9_init_1 ?_
  refine y_aload_n 0 rfl dX9_init_4 ?_
  refine y_bipush dX9_init_5 (by decide) ?_
  refine y_newI (K := 227) (K2 := 228) (cs2 := (1, 26)) 26 za_int (by decide) (by decide) (by decide) ⟨Nat.le_of_ble_eq_true rfl, Nat.le_of_ble_eq_true rfl⟩ rfl rfl dX9_init_7 ?_
  refine y_putF (k := 226) 7 [iV 0, iV 0, iV 0, iV 0, iV 0, iV 0, .null, .ref (x.2.2.1 + 227), .null, .null, .null, iV 0, iV 0, iV 0, iV 0, iV 0, iV 0, iV 0] (by decide) hE (Nat.le_of_ble_eq_true rfl) rfl rfl (by decide) inT9 fl_X9_9 tyX9 tyX9_ok nmX9 rfl (fun _ _ h => h) rfl rfl rfl dX9_init_9 ?_
  refine y_aload_n 0 rfl dX9_init_12 ?_
  refine y_bipush dX9_init_13 (by decide) ?_
  refine y_newI (K := 228) (K2 := 229) (cs2 := (2, 50)) 24 za_int (by decide) (by decide) (by decide) ⟨Nat.le_of_ble_eq_true rfl, Nat.le_of_ble_eq_true rfl⟩ rfl rfl dX9_init_15 ?_
  refine y_putF (k := 226) 8 [iV 0, iV 0, iV 0, iV 0, iV 0, iV 0, .null, .ref (x.2.2.1 + 227), .ref (x.2.2.1 + 228), .null, .null, iV 0, iV 0, iV 0, iV 0, iV 0, iV 0, iV 0] (by decide) rfl (Nat.le_of_ble_eq_true rfl) rfl rfl (by decide) inT9 fl_X9_15 tyX9 tyX9_ok nmX9 rfl (fun _ _ h => h) rfl rfl rfl dX9_init_17 ?_
  refine y_aload_n 0 rfl dX9_init_20 ?_
  refine y_iconst dX9_init_21 ?_
  refine y_newI (K := 229) (K2 := 230) (cs2 := (3, 53)) 3 za_int (by decide) (by decide) (by decide) ⟨Nat.le_of_ble_eq_true rfl, Nat.le_of_ble_eq_true rfl⟩ rfl rfl dX9_init_22 ?_
  refine y_putF (k := 226) 9 [iV 0, iV 0, iV 0, iV 0, iV 0, iV 0, .null, .ref (x.2.2.1 + 227), .ref (x.2.2.1 + 228), .ref (x.2.2.1 + 229), .null, iV 0, iV 0, iV 0, iV 0, iV 0, iV 0, iV 0] (by decide) rfl (Nat.le_of_ble_eq_true rfl) rfl rfl (by decide) inT9 fl_X9_18 tyX9 tyX9_ok nmX9 rfl (fun _ _ h => h) rfl rfl rfl dX9_init_24 ?_
  refine y_aload_n 0 rfl dX9_init_27 ?_
  refine y_iconst dX9_init_28 ?_
  refine y_newI (K := 230) (K2 := 231) (cs2 := (4, 56)) 3 za_int (by decide) (by decide) (by decide) ⟨Nat.le_of_ble_eq_true rfl, Nat.le_of_ble_eq_true rfl⟩ rfl rfl dX9_init_29 ?_
  refine y_putF (k := 226) 10 [iV 0, iV 0, iV 0, iV 0, iV 0, iV 0, .null, .ref (x.2.2.1 + 227), .ref (x.2.2.1 + 228), .ref (x.2.2.1 + 229), .ref (x.2.2.1 + 230), iV 0, iV 0, iV 0, iV 0, iV 0, iV 0, iV 0] (by decide) rfl (Nat.le_of_ble_eq_true rfl) rfl rfl (by decide) inT9 fl_X9_21 tyX9 tyX9_ok nmX9 rfl (fun _ _ h => h) rfl rfl rfl dX9_init_31 ?_
  refine y_aload_n 0 rfl dX9_init_34 ?_
  refine y_aload_n 1 rfl dX9_init_35 ?_
  refine y_putF (k := 226) 6 [iV 0, iV 0, iV 0, iV 0, iV 0, iV 0, .ref (x.2.2.1 + 39), .ref (x.2.2.1 + 227), .ref (x.2.2.1 + 228), .ref (x.2.2.1 + 229), .ref (x.2.2.1 + 230), iV 0, iV 0, iV 0, iV 0, iV 0, iV 0, iV 0] (by decide) rfl (Nat.le_of_ble_eq_true rfl) rfl rfl (by decide) inT9 fl_X9_24 tyX9 tyX9_ok nmX9 rfl (fun _ _ h => h) rfl rfl rfl dX9_init_36 ?_
  exact y_vret rfl dX9_init_39
def ze_0_232 (x : xX) (E : Nat → va_E) : Nat → va_E := uE (uE (uE (uE (uE (uE (E) 233 (.inl (x.2.1.1 100, 2925, .inl (fun _ => Int32.ofInt 0)))) 232 (.inr (0, [.null, .null, .ref (x.2.2.1 + 233), .null, iV 0, iV 0]))) 234 (.inl (x.2.1.1 100, 11700, .inl (fun _ => Int32.ofInt 0)))) 232 (.inr (0, [.null, .null, .ref (x.2.2.1 + 233), .ref (x.2.2.1 + 234), iV 0, iV 0]))) 232 (.inr (0, [.ref (x.2.2.1 + 39), .null, .ref (x.2.2.1 + 233), .ref (x.2.2.1 + 234), iV 0, iV 0]))) 232 (.inr (0, [.ref (x.2.2.1 + 39), .ref (x.2.2.1 + 73), .ref (x.2.2.1 + 233), .ref (x.2.2.1 + 234), iV 0, iV 0]))
set_option maxRecDepth 100000 in
set_option maxHeartbeats 8000000 in
theorem zt_0_232 (x : xX) (E : Nat → va_E) (hE : E 232 = .inr (0, [.null, .null, .null, .null, iV 0, iV 0])) : yMet x 1 yX0_init cX0_init 3 [.ref (x.2.2.1 + 232), .ref (x.2.2.1 + 39), .ref (x.2.2.1 + 73)] 2 14625 233 E 235 (ze_0_232 x E) := by
  refine yMet_of (by decide +kernel) (Nat.le_of_ble_eq_true rfl) yI (fun _ _ h => h) ?_
  show yGr x (yRm 1 2 14625, RX0, cX0_init, 3, none, yI) (0, 0) (yFin x (yQ x 235 (ze_0_232 x E)) 2 14625) (yR x 233 E) 0 [(0, .ref (x.2.2.1 + 232)), (1, .ref (x.2.2.1 + 39)), (2, .ref (x.2.2.1 + 73))] []
  refine y_aload_n 0 rfl dX0_init_0 ?_
  refine y_obj zl_X0_3 zo_ins zo_code ⟨Nat.le_of_ble_eq_true rfl, Nat.le_of_ble_eq_true rfl⟩ (Nat.le_of_ble_eq_true rfl) dX0_init_1 ?_
  refine y_aload_n 0 rfl dX0_init_4 ?_
  refine y_sipush dX0_init_5 (by decide) ?_
  refine y_newI (K := 233) (K2 := 234) (cs2 := (1, 2925)) 2925 za_int (by decide) (by decide) (by decide) ⟨Nat.le_of_ble_eq_true rfl, Nat.le_of_ble_eq_true rfl⟩ rfl rfl dX0_init_8 ?_
  refine y_putF (k := 232) 2 [.null, .null, .ref (x.2.2.1 + 233), .null, iV 0, iV 0] (by decide) hE (Nat.le_of_ble_eq_true rfl) rfl rfl (by decide) inT0 fl_X0_11 tyX0 tyX0_ok nmX0 rfl (fun _ _ h => h) rfl rfl rfl dX0_init_10 ?_
  refine y_aload_n 0 rfl dX0_init_13 ?_
  refine y_sipush dX0_init_14 (by decide) ?_
  refine y_newI (K := 234) (K2 := 235) (cs2 := (2, 14625)) 11700 za_int (by decide) (by decide) (by decide) ⟨Nat.le_of_ble_eq_true rfl, Nat.le_of_ble_eq_true rfl⟩ rfl rfl dX0_init_17 ?_
  refine y_putF (k := 232) 3 [.null, .null, .ref (x.2.2.1 + 233), .ref (x.2.2.1 + 234), iV 0, iV 0] (by decide) rfl (Nat.le_of_ble_eq_true rfl) rfl rfl (by decide) inT0 fl_X0_15 tyX0 tyX0_ok nmX0 rfl (fun _ _ h => h) rfl rfl rfl dX0_init_19 ?_
  refine y_aload_n 0 rfl dX0_init_22 ?_
  refine y_aload_n 1 rfl dX0_init_23 ?_
  refine y_putF (k := 232) 0 [.ref (x.2.2.1 + 39), .null, .ref (x.2.2.1 + 233), .ref (x.2.2.1 + 234), iV 0, iV 0] (by decide) rfl (Nat.le_of_ble_eq_true rfl) rfl rfl (by decide) inT0 fl_X0_18 tyX0 tyX0_ok nmX0 rfl (fun _ _ h => h) rfl rfl rfl dX0_init_24 ?_
  refine y_aload_n 0 rfl dX0_init_27 ?_
  refine y_aload_n 2 rfl dX0_init_28 ?_
  refine y_putF (k := 232) 1 [.ref (x.2.2.1 + 39), .ref (x.2.2.1 + 73), .ref (x.2.2.1 + 233), .ref (x.2.2.1 + 234), iV 0, iV 0] (by decide) rfl (Nat.le_of_ble_eq_true rfl) rfl rfl (by decide) inT0 fl_X0_22 tyX0 tyX0_ok nmX0 rfl (fun _ _ h => h) rfl rfl rfl dX0_init_29 ?_
  exact y_vret rfl dX0_init_32
def ze_8_235 (x : xX) (E : Nat → va_E) : Nat → va_E := uE (uE (uE (E) 235 (.inr (8, [.ref (x.2.2.1 + 39), .null, .null]))) 235 (.inr (8, [.ref (x.2.2.1 + 39), .ref (x.2.2.1 + 73), .null]))) 235 (.inr (8, [.ref (x.2.2.1 + 39), .ref (x.2.2.1 + 73), .ref (x.2.2.1 + 232)]))
set_option maxRecDepth 100000 in
set_option maxHeartbeats 8000000 in
theorem zt_8_235 (x : xX) (E : Nat → va_E) (hE : E 235 = .inr (8, [.null, .null, .null])) : yMet x 1 yX8_init cX8_init 4 [.ref (x.2.2.1 + 235), .ref (x.2.2.1 + 39), .ref (x.2.2.1 + 73), .ref (x.2.2.1 + 232)] 0 0 236 E 236 (ze_8_235 x E) := by
  refine yMet_of (by decide +kernel) (Nat.le_of_ble_eq_true rfl) yI (fun _ _ h => h) ?_
  show yGr x (yRm 1 0 0, RX8, cX8_init, 4, none, yI) (0, 0) (yFin x (yQ x 236 (ze_8_235 x E)) 0 0) (yR x 236 E) 0 [(0, .ref (x.2.2.1 + 235)), (1, .ref (x.2.2.1 + 39)), (2, .ref (x.2.2.1 + 73)), (3, .ref (x.2.2.1 + 232))] []
  refine y_aload_n 0 rfl dX8_init_0 ?_
  refine y_obj zl_X8_3 zo_ins zo_code ⟨Nat.le_of_ble_eq_true rfl, Nat.le_of_ble_eq_true rfl⟩ (Nat.le_of_ble_eq_true rfl) dX8_init_1 ?_
  refine y_aload_n 0 rfl dX8_init_4 ?_
  refine y_aload_n 1 rfl dX8_init_5 ?_
  refine y_putF (k := 235) 0 [.ref (x.2.2.1 + 39), .null, .null] (by decide) hE (Nat.le_of_ble_eq_true rfl) rfl rfl (by decide) inT8 fl_X8_9 tyX8 tyX8_ok nmX8 rfl (fun _ _ h => h) rfl rfl rfl dX8_init_6 ?_
  refine y_aload_n 0 rfl dX8_init_9 ?_
  refine y_aload_n 2 rfl dX8_init_10 ?_
  refine y_putF (k := 235) 1 [.ref (x.2.2.1 + 39), .ref (x.2.2.1 + 73), .null] (by decide) rfl (Nat.le_of_ble_eq_true rfl) rfl rfl (by decide) inT8 fl_X8_15 tyX8 tyX8_ok nmX8 rfl (fun _ _ h => h) rfl rfl rfl dX8_init_11 ?_
  refine y_aload_n 0 rfl dX8_init_14 ?_
  refine y_aload_n 3 rfl dX8_init_15 ?_
  refine y_putF (k := 235) 2 [.ref (x.2.2.1 + 39), .ref (x.2.2.1 + 73), .ref (x.2.2.1 + 232)] (by decide) rfl (Nat.le_of_ble_eq_true rfl) rfl rfl (by decide) inT8 fl_X8_19 tyX8 tyX8_ok nmX8 rfl (fun _ _ h => h) rfl rfl rfl dX8_init_16 ?_
  exact y_vret rfl dX8_init_19
def ze_7_236 (x : xX) (E : Nat → va_E) : Nat → va_E := uE (uE (uE (uE (uE (uE (uE (uE (uE (uE (uE (uE (uE (uB (uE (uE (uE (E) 237 (.inl (x.2.1.1 100, 26, .inl (fun _ => Int32.ofInt 0)))) 236 (.inr (7, [.null, .null, .ref (x.2.2.1 + 237), .null, .null, .null, .null, .null, .null, iV 0, iV 0, iV 0, iV 0]))) 238 (.inl (x.2.1.1 104, 3, .inr (.inr (.inr (.inr (fun j => some (x.2.2.1 + (238 + 1 + 1 * j))))))))) (238 + 1) 3 (.inl (x.2.1.1 100, 25, .inl (fun _ => Int32.ofInt 0)))) 236 (.inr (7, [.null, .null, .ref (x.2.2.1 + 237), .ref (x.2.2.1 + 238), .null, .null, .null, .null, .null, iV 0, iV 0, iV 0, iV 0]))) 242 (.inl (x.2.1.1 100, 25, .inl (fun _ => Int32.ofInt 0)))) 236 (.inr (7, [.null, .null, .ref (x.2.2.1 + 237), .ref (x.2.2.1 + 238), .ref (x.2.2.1 + 242), .null, .null, .null, .null, iV 0, iV 0, iV 0, iV 0]))) 243 (.inl (x.2.1.1 100, 15625, .inl (fun _ => Int32.ofInt 0)))) 236 (.inr (7, [.null, .null, .ref (x.2.2.1 + 237), .ref (x.2.2.1 + 238), .ref (x.2.2.1 + 242), .ref (x.2.2.1 + 243), .null, .null, .null, iV 0, iV 0, iV 0, iV 0]))) 244 (.inl (x.2.1.1 100, 15625, .inl (fun _ => Int32.ofInt 0)))) 236 (.inr (7, [.null, .null, .ref (x.2.2.1 + 237), .ref (x.2.2.1 + 238), .ref (x.2.2.1 + 242), .ref (x.2.2.1 + 243), .ref (x.2.2.1 + 244), .null, .null, iV 0, iV 0, iV 0, iV 0]))) 245 (.inl (x.2.1.1 100, 489, .inl (fun _ => Int32.ofInt 0)))) 236 (.inr (7, [.null, .null, .ref (x.2.2.1 + 237), .ref (x.2.2.1 + 238), .ref (x.2.2.1 + 242), .ref (x.2.2.1 + 243), .ref (x.2.2.1 + 244), .ref (x.2.2.1 + 245), .null, iV 0, iV 0, iV 0, iV 0]))) 246 (.inl (x.2.1.1 100, 489, .inl (fun _ => Int32.ofInt 0)))) 236 (.inr (7, [.null, .null, .ref (x.2.2.1 + 237), .ref (x.2.2.1 + 238), .ref (x.2.2.1 + 242), .ref (x.2.2.1 + 243), .ref (x.2.2.1 + 244), .ref (x.2.2.1 + 245), .ref (x.2.2.1 + 246), iV 0, iV 0, iV 0, iV 0]))) 236 (.inr (7, [.ref (x.2.2.1 + 39), .null, .ref (x.2.2.1 + 237), .ref (x.2.2.1 + 238), .ref (x.2.2.1 + 242), .ref (x.2.2.1 + 243), .ref (x.2.2.1 + 244), .ref (x.2.2.1 + 245), .ref (x.2.2.1 + 246), iV 0, iV 0, iV 0, iV 0]))) 236 (.inr (7, [.ref (x.2.2.1 + 39), .ref (x.2.2.1 + 73), .ref (x.2.2.1 + 237), .ref (x.2.2.1 + 238), .ref (x.2.2.1 + 242), .ref (x.2.2.1 + 243), .ref (x.2.2.1 + 244), .ref (x.2.2.1 + 245), .ref (x.2.2.1 + 246), iV 0, iV 0, iV 0, iV 0]))
set_option maxRecDepth 100000 in
set_option maxHeartbeats 8000000 in
theorem zt_7_236 (x : xX) (E : Nat → va_E) (hE : E 236 = .inr (7, [.null, .null, .null, .null, .null, .null, .null, .null, .null, iV 0, iV 0, iV 0, iV 0])) : yMet x 1 yX7_init cX7_init 3 [.ref (x.2.2.1 + 236), .ref (x.2.2.1 + 39), .ref (x.2.2.1 + 73)] 10 32357 237 E 247 (ze_7_236 x E) := by
  refine yMet_of (by decide +kernel) (Nat.le_of_ble_eq_true rfl) yI (fun _ _ h => h) ?_
  show yGr x (yRm 1 10 32357, RX7, cX7_init, 3, none, yI) (0, 0) (yFin x (yQ x 247 (ze_7_236 x E)) 10 32357) (yR x 237 E) 0 [(0, .ref (x.2.2.1 + 236)), (1, .ref (x.2.2.1 + 39)), (2, .ref (x.2.2.1 + 73))] []
  refine y_aload_n 0 rfl dX7_init_0 ?_
  refine y_obj zl_X7_3 zo_ins zo_code ⟨Nat.le_of_ble_eq_true rfl, Nat.le_of_ble_eq_true rfl⟩ (Nat.le_of_ble_eq_true rfl) dX7_init_1 ?_
  refine y_aload_n 0 rfl dX7_init_4 ?_
  refine y_bipush dX7_init_5 (by decide) ?_
  refine y_newI (K := 237) (K2 := 238) (cs2 := (1, 26)) 26 za_int (by decide) (by decide) (by decide) ⟨Nat.le_of_ble_eq_true rfl, Nat.le_of_ble_eq_true rfl⟩ rfl rfl dX7_init_7 ?_
  refine y_putF (k := 236) 2 [.null, .null, .ref (x.2.2.1 + 237), .null, .null, .null, .null, .null, .null, iV 0, iV 0, iV 0, iV 0] (by decide) hE (Nat.le_of_ble_eq_true rfl) rfl rfl (by decide) inT7 fl_X7_9 tyX7 tyX7_ok nmX7 rfl (fun _ _ h => h) rfl rfl rfl dX7_init_9 ?_
  refine y_aload_n 0 rfl dX7_init_12 ?_
  refine y_iconst dX7_init_13 ?_
  refine y_bipush dX7_init_14 (by decide) ?_
  refine y_mna (K := 238) (K2 := 242) (cs2 := (5, 104)) 3 25 zk_X7_15 za_int (by decide) (by decide) (by decide) (by decide) (by decide) (by decide) (by decide) ⟨Nat.le_of_ble_eq_true rfl, Nat.le_of_ble_eq_true rfl⟩ rfl rfl dX7_init_16 ?_
  refine y_putF (k := 236) 3 [.null, .null, .ref (x.2.2.1 + 237), .ref (x.2.2.1 + 238), .null, .null, .null, .null, .null, iV 0, iV 0, iV 0, iV 0] (by decide) rfl (Nat.le_of_ble_eq_true rfl) rfl rfl (by decide) inT7 fl_X7_17 tyX7 tyX7_ok nmX7 rfl (fun _ _ h => h) rfl rfl rfl dX7_init_20 ?_
  refine y_aload_n 0 rfl dX7_init_23 ?_
  refine y_bipush dX7_init_24 (by decide) ?_
  refine y_newI (K := 242) (K2 := 243) (cs2 := (6, 129)) 25 za_int (by decide) (by decide) (by decide) ⟨Nat.le_of_ble_eq_true rfl, Nat.le_of_ble_eq_true rfl⟩ rfl rfl dX7_init_26 ?_
  refine y_putF (k := 236) 4 [.null, .null, .ref (x.2.2.1 + 237), .ref (x.2.2.1 + 238), .ref (x.2.2.1 + 242), .null, .null, .null, .null, iV 0, iV 0, iV 0, iV 0] (by decide) rfl (Nat.le_of_ble_eq_true rfl) rfl rfl (by decide) inT7 fl_X7_20 tyX7 tyX7_ok nmX7 rfl (fun _ _ h => h) rfl rfl rfl dX7_init_28 ?_
  refine y_aload_n 0 rfl dX7_init_31 ?_
  refine y_sipush dX7_init_32 (by decide) ?_
  refine y_newI (K := 243) (K2 := 244) (cs2 := (7, 15754)) 15625 za_int (by decide) (by decide) (by decide) ⟨Nat.le_of_ble_eq_true rfl, Nat.le_of_ble_eq_true rfl⟩ rfl rfl dX7_init_35 ?_
  refine y_put (k := 236) 5 [.null, .null, .ref (x.2.2.1 + 237), .ref (x.2.2.1 + 238), .ref (x.2.2.1 + 242), .ref (x.2.2.1 + 243), .null, .null, .null, iV 0, iV 0, iV 0, iV 0] (by decide) rfl (Nat.le_of_ble_eq_true rfl) rfl rfl (by decide) inT7 fl_X7_23 tyX7 tyX7_ok nmX7 rfl rfl rfl dX7_init_37 ?_
  refine y_aload_n 0 rfl dX7_init_40 ?_
  refine y_sipush dX7_init_41 (by decide) ?_
  refine y_newI (K := 244) (K2 := 245) (cs2 := (8, 31379)) 15625 za_int (by decide) (by decide) (by decide) ⟨Nat.le_of_ble_eq_true rfl, Nat.le_of_ble_eq_true rfl⟩ rfl rfl dX7_init_44 ?_
  refine y_put (k := 236) 6 [.null, .null, .ref (x.2.2.1 + 237), .ref (x.2.2.1 + 238), .ref (x.2.2.1 + 242), .ref (x.2.2.1 + 243), .ref (x.2.2.1 + 244), .null, .null, iV 0, iV 0, iV 0, iV 0] (by decide) rfl (Nat.le_of_ble_eq_true rfl) rfl rfl (by decide) inT7 fl_X7_26 tyX7 tyX7_ok nmX7 rfl rfl rfl dX7_init_46 ?_
  refine y_aload_n 0 rfl dX7_init_49 ?_
  refine y_sipush dX7_init_50 (by decide) ?_
  refine y_newI (K := 245) (K2 := 246) (cs2 := (9, 31868)) 489 za_int (by decide) (by decide) (by decide) ⟨Nat.le_of_ble_eq_true rfl, Nat.le_of_ble_eq_true rfl⟩ rfl rfl dX7_init_53 ?_
  refine y_putF (k := 236) 7 [.null, .null, .ref (x.2.2.1 + 237), .ref (x.2.2.1 + 238), .ref (x.2.2.1 + 242), .ref (x.2.2.1 + 243), .ref (x.2.2.1 + 244), .ref (x.2.2.1 + 245), .null, iV 0, iV 0, iV 0, iV 0] (by decide) rfl (Nat.le_of_ble_eq_true rfl) rfl rfl (by decide) inT7 fl_X7_29 tyX7 tyX7_ok nmX7 rfl (fun _ _ h => h) rfl rfl rfl dX7_init_55 ?_
  refine y_aload_n 0 rfl dX7_init_58 ?_
  refine y_sipush dX7_init_59 (by decide) ?_
  refine y_newI (K := 246) (K2 := 247) (cs2 := (10, 32357)) 489 za_int (by decide) (by decide) (by decide) ⟨Nat.le_of_ble_eq_true rfl, Nat.le_of_ble_eq_true rfl⟩ rfl rfl dX7_init_62 ?_
  refine y_putF (k := 236) 8 [.null, .null, .ref (x.2.2.1 + 237), .ref (x.2.2.1 + 238), .ref (x.2.2.1 + 242), .ref (x.2.2.1 + 243), .ref (x.2.2.1 + 244), .ref (x.2.2.1 + 245), .ref (x.2.2.1 + 246), iV 0, iV 0, iV 0, iV 0] (by decide) rfl (Nat.le_of_ble_eq_true rfl) rfl rfl (by decide) inT7 fl_X7_32 tyX7 tyX7_ok nmX7 rfl (fun _ _ h => h) rfl rfl rfl dX7_init_64 ?_
  refine y_aload_n 0 rfl dX7_init_67 ?_
  refine y_aload_n 1 rfl dX7_init_68 ?_
  refine y_putF (k := 236) 0 [.ref (x.2.2.1 + 39), .null, .ref (x.2.2.1 + 237), .ref (x.2.2.1 + 238), .ref (x.2.2.1 + 242), .ref (x.2.2.1 + 243), .ref (x.2.2.1 + 244), .ref (x.2.2.1 + 245), .ref (x.2.2.1 + 246), iV 0, iV 0, iV 0, iV 0] (by decide) rfl (Nat.le_of_ble_eq_true rfl) rfl rfl (by decide) inT7 fl_X7_35 tyX7 tyX7_ok nmX7 rfl (fun _ _ h => h) rfl rfl rfl dX7_init_69 ?_
  refine y_aload_n 0 rfl dX7_init_72 ?_
  refine y_aload_n 2 rfl dX7_init_73 ?_
  refine y_putF (k := 236) 1 [.ref (x.2.2.1 + 39), .ref (x.2.2.1 + 73), .ref (x.2.2.1 + 237), .ref (x.2.2.1 + 238), .ref (x.2.2.1 + 242), .ref (x.2.2.1 + 243), .ref (x.2.2.1 + 244), .ref (x.2.2.1 + 245), .ref (x.2.2.1 + 246), iV 0, iV 0, iV 0, iV 0] (by decide) rfl (Nat.le_of_ble_eq_true rfl) rfl rfl (by decide) inT7 fl_X7_39 tyX7 tyX7_ok nmX7 rfl (fun _ _ h => h) rfl rfl rfl dX7_init_74 ?_
  exact y_vret rfl dX7_init_77
def ze_6_247 (x : xX) (E : Nat → va_E) : Nat → va_E := uE (uE (uE (uE (E) 248 (.inl (x.2.1.1 100, 26, .inl (fun _ => Int32.ofInt 0)))) 247 (.inr (6, [.null, .null, .ref (x.2.2.1 + 248)]))) 247 (.inr (6, [.ref (x.2.2.1 + 39), .null, .ref (x.2.2.1 + 248)]))) 247 (.inr (6, [.ref (x.2.2.1 + 39), .ref (x.2.2.1 + 73), .ref (x.2.2.1 + 248)]))
set_option maxRecDepth 100000 in
set_option maxHeartbeats 8000000 in
theorem zt_6_247 (x : xX) (E : Nat → va_E) (hE : E 247 = .inr (6, [.null, .null, .null])) : yMet x 1 yX6_init cX6_init 3 [.ref (x.2.2.1 + 247), .ref (x.2.2.1 + 39), .ref (x.2.2.1 + 73)] 1 26 248 E 249 (ze_6_247 x E) := by
  refine yMet_of (by decide +kernel) (Nat.le_of_ble_eq_true rfl) yI (fun _ _ h => h) ?_
  show yGr x (yRm 1 1 26, RX6, cX6_init, 3, none, yI) (0, 0) (yFin x (yQ x 249 (ze_6_247 x E)) 1 26) (yR x 248 E) 0 [(0, .ref (x.2.2.1 + 247)), (1, .ref (x.2.2.1 + 39)), (2, .ref (x.2.2.1 + 73))] []
  refine y_aload_n 0 rfl dX6_init_0 ?_
  refine y_obj zl_X6_3 zo_ins zo_code ⟨Nat.le_of_ble_eq_true rfl, Nat.le_of_ble_eq_true rfl⟩ (Nat.le_of_ble_eq_true rfl) dX6_init_1 ?_
  refine y_aload_n 0 rfl dX6_init_4 ?_
  refine y_bipush dX6_init_5 (by decide) ?_
  refine y_newI (K := 248) (K2 := 249) (cs2 := (1, 26)) 26 za_int (by decide) (by decide) (by decide) ⟨Nat.le_of_ble_eq_true rfl, Nat.le_of_ble_eq_true rfl⟩ rfl rfl dX6_init_7 ?_
  refine y_putF (k := 247) 2 [.null, .null, .ref (x.2.2.1 + 248)] (by decide) hE (Nat.le_of_ble_eq_true rfl) rfl rfl (by decide) inT6 fl_X6_9 tyX6 tyX6_ok nmX6 rfl (fun _ _ h => h) rfl rfl rfl dX6_init_9 ?_
  refine y_aload_n 0 rfl dX6_init_12 ?_
  refine y_aload_n 1 rfl dX6_init_13 ?_
  refine y_putF (k := 247) 0 [.ref (x.2.2.1 + 39), .null, .ref (x.2.2.1 + 248)] (by decide) rfl (Nat.le_of_ble_eq_true rfl) rfl rfl (by decide) inT6 fl_X6_15 tyX6 tyX6_ok nmX6 rfl (fun _ _ h => h) rfl rfl rfl dX6_init_14 ?_
  refine y_aload_n 0 rfl dX6_init_17 ?_
  refine y_aload_n 2 rfl dX6_init_18 ?_
  refine y_putF (k := 247) 1 [.ref (x.2.2.1 + 39), .ref (x.2.2.1 + 73), .ref (x.2.2.1 + 248)] (by decide) rfl (Nat.le_of_ble_eq_true rfl) rfl rfl (by decide) inT6 fl_X6_19 tyX6 tyX6_ok nmX6 rfl (fun _ _ h => h) rfl rfl rfl dX6_init_19 ?_
  exact y_vret rfl dX6_init_22
def ze_4_249 (x : xX) (E : Nat → va_E) : Nat → va_E := uE (uE (uE (E) 250 (.inl (x.2.1.1 100, 3, .inl (fun _ => Int32.ofInt 0)))) 249 (.inr (4, [iV 0, iV 0, iV 0, .ref (x.2.2.1 + 250)]))) 250 (.inl (x.2.1.1 100, 3, .inl (fun _ => Int32.ofInt (24))))
set_option maxRecDepth 100000 in
set_option maxHeartbeats 8000000 in
theorem zt_4_249 (x : xX) (E : Nat → va_E) (hE : E 249 = .inr (4, [iV 0, iV 0, iV 0, .null])) : yMet x 2 yX4_init cX4_init 1 [.ref (x.2.2.1 + 249)] 1 3 250 E 251 (ze_4_249 x E) := by
  refine yMet_of (by decide +kernel) (Nat.le_of_ble_eq_true rfl) yI (fun _ _ h => h) ?_
  show yGr x (yRm 2 1 3, RX4, cX4_init, 1, none, yI) (0, 0) (yFin x (yQ x 251 (ze_4_249 x E)) 1 3) (yR x 250 E) 0 [(0, .ref (x.2.2.1 + 249))] []
  refine y_aload_n 0 rfl dX4_init_0 ?_
  refine y_obj zl_X4_3 zo_ins zo_code ⟨Nat.le_of_ble_eq_true rfl, Nat.le_of_ble_eq_true rfl⟩ (Nat.le_of_ble_eq_true rfl) dX4_init_1 ?_
  refine y_aload_n 0 rfl dX4_init_4 ?_
  refine y_iconst dX4_init_5 ?_
  refine y_newI (K := 250) (K2 := 251) (cs2 := (1, 3)) 3 za_int (by decide) (by decide) (by decide) ⟨Nat.le_of_ble_eq_true rfl, Nat.le_of_ble_eq_true rfl⟩ rfl rfl dX4_init_6 ?_
  refine y_putF (k := 249) 3 [iV 0, iV 0, iV 0, .ref (x.2.2.1 + 250)] (by decide) hE (Nat.le_of_ble_eq_true rfl) rfl rfl (by decide) inT4 fl_X4_9 tyX4 tyX4_ok nmX4 rfl (fun _ _ h => h) rfl rfl rfl dX4_init_8 ?_
  refine y_aload_n 0 rfl dX4_init_11 ?_
  refine y_get (k := 249) (v := .ref (x.2.2.1 + 250)) 3 (by decide) rfl rfl rfl (by decide) inT4 fl_X4_9 dX4_init_12 ?_
  refine y_bipush dX4_init_15 (by decide) ?_
  refine y_callS (cs2 := (1, 3)) (As := [.ref (x.2.2.1 + 250), iV 24]) cal_J7_fill_53178 sta_J7_fill_53178 (y_fillM x (k := 250) (n := 3) (v := 24) (by decide) rfl (by decide)) rfl zl_X4_15 ⟨Nat.le_of_ble_eq_true rfl, Nat.le_of_ble_eq_true rfl⟩ ⟨Nat.le_of_ble_eq_true rfl, Nat.le_of_ble_eq_true rfl⟩ (Nat.le_of_ble_eq_true rfl) rfl dX4_init_17 ?_
  exact y_vret rfl dX4_init_20
def ze_4_251 (x : xX) (E : Nat → va_E) : Nat → va_E := uE (uE (uE (E) 252 (.inl (x.2.1.1 100, 3, .inl (fun _ => Int32.ofInt 0)))) 251 (.inr (4, [iV 0, iV 0, iV 0, .ref (x.2.2.1 + 252)]))) 252 (.inl (x.2.1.1 100, 3, .inl (fun _ => Int32.ofInt (24))))
set_option maxRecDepth 100000 in
set_option maxHeartbeats 8000000 in
theorem zt_4_251 (x : xX) (E : Nat → va_E) (hE : E 251 = .inr (4, [iV 0, iV 0, iV 0, .null])) : yMet x 2 yX4_init cX4_init 1 [.ref (x.2.2.1 + 251)] 1 3 252 E 253 (ze_4_251 x E) := by
  refine yMet_of (by decide +kernel) (Nat.le_of_ble_eq_true rfl) yI (fun _ _ h => h) ?_
  show yGr x (yRm 2 1 3, RX4, cX4_init, 1, none, yI) (0, 0) (yFin x (yQ x 253 (ze_4_251 x E)) 1 3) (yR x 252 E) 0 [(0, .ref (x.2.2.1 + 251))] []
  refine y_aload_n 0 rfl dX4_init_0 ?_
  refine y_obj zl_X4_3 zo_ins zo_code ⟨Nat.le_of_ble_eq_true rfl, Nat.le_of_ble_eq_true rfl⟩ (Nat.le_of_ble_eq_true rfl) dX4_init_1 ?_
  refine y_aload_n 0 rfl dX4_init_4 ?_
  refine y_iconst dX4_init_5 ?_
  refine y_newI (K := 252) (K2 := 253) (cs2 := (1, 3)) 3 za_int (by decide) (by decide) (by decide) ⟨Nat.le_of_ble_eq_true rfl, Nat.le_of_ble_eq_true rfl⟩ rfl rfl dX4_init_6 ?_
  refine y_putF (k := 251) 3 [iV 0, iV 0, iV 0, .ref (x.2.2.1 + 252)] (by decide) hE (Nat.le_of_ble_eq_true rfl) rfl rfl (by decide) inT4 fl_X4_9 tyX4 tyX4_ok nmX4 rfl (fun _ _ h => h) rfl rfl rfl dX4_init_8 ?_
  refine y_aload_n 0 rfl dX4_init_11 ?_
  refine y_get (k := 251) (v := .ref (x.2.2.1 + 252)) 3 (by decide) rfl rfl rfl (by decide) inT4 fl_X4_9 dX4_init_12 ?_
  refine y_bipush dX4_init_15 (by decide) ?_
  refine y_callS (cs2 := (1, 3)) (As := [.ref (x.2.2.1 + 252), iV 24]) cal_J7_fill_53178 sta_J7_fill_53178 (y_fillM x (k := 252) (n := 3) (v := 24) (by decide) rfl (by decide)) rfl zl_X4_15 ⟨Nat.le_of_ble_eq_true rfl, Nat.le_of_ble_eq_true rfl⟩ ⟨Nat.le_of_ble_eq_true rfl, Nat.le_of_ble_eq_true rfl⟩ (Nat.le_of_ble_eq_true rfl) rfl dX4_init_17 ?_
  exact y_vret rfl dX4_init_20
def ze_4_254 (x : xX) (E : Nat → va_E) : Nat → va_E := uE (uE (uE (E) 255 (.inl (x.2.1.1 100, 3, .inl (fun _ => Int32.ofInt 0)))) 254 (.inr (4, [iV 0, iV 0, iV 0, .ref (x.2.2.1 + 255)]))) 255 (.inl (x.2.1.1 100, 3, .inl (fun _ => Int32.ofInt (24))))
set_option maxRecDepth 100000 in
set_option maxHeartbeats 8000000 in
theorem zt_4_254 (x : xX) (E : Nat → va_E) (hE : E 254 = .inr (4, [iV 0, iV 0, iV 0, .null])) : yMet x 2 yX4_init cX4_init 1 [.ref (x.2.2.1 + 254)] 1 3 255 E 256 (ze_4_254 x E) := by
  refine yMet_of (by decide +kernel) (Nat.le_of_ble_eq_true rfl) yI (fun _ _ h => h) ?_
  show yGr x (yRm 2 1 3, RX4, cX4_init, 1, none, yI) (0, 0) (yFin x (yQ x 256 (ze_4_254 x E)) 1 3) (yR x 255 E) 0 [(0, .ref (x.2.2.1 + 254))] []
  refine y_aload_n 0 rfl dX4_init_0 ?_
  refine y_obj zl_X4_3 zo_ins zo_code ⟨Nat.le_of_ble_eq_true rfl, Nat.le_of_ble_eq_true rfl⟩ (Nat.le_of_ble_eq_true rfl) dX4_init_1 ?_
  refine y_aload_n 0 rfl dX4_init_4 ?_
  refine y_iconst dX4_init_5 ?_
  refine y_newI (K := 255) (K2 := 256) (cs2 := (1, 3)) 3 za_int (by decide) (by decide) (by decide) ⟨Nat.le_of_ble_eq_true rfl, Nat.le_of_ble_eq_true rfl⟩ rfl rfl dX4_init_6 ?_
  refine y_putF (k := 254) 3 [iV 0, iV 0, iV 0, .ref (x.2.2.1 + 255)] (by decide) hE (Nat.le_of_ble_eq_true rfl) rfl rfl (by decide) inT4 fl_X4_9 tyX4 tyX4_ok nmX4 rfl (fun _ _ h => h) rfl rfl rfl dX4_init_8 ?_
  refine y_aload_n 0 rfl dX4_init_11 ?_
  refine y_get (k := 254) (v := .ref (x.2.2.1 + 255)) 3 (by decide) rfl rfl rfl (by decide) inT4 fl_X4_9 dX4_init_12 ?_
  refine y_bipush dX4_init_15 (by decide) ?_
  refine y_callS (cs2 := (1, 3)) (As := [.ref (x.2.2.1 + 255), iV 24]) cal_J7_fill_53178 sta_J7_fill_53178 (y_fillM x (k := 255) (n := 3) (v := 24) (by decide) rfl (by decide)) rfl zl_X4_15 ⟨Nat.le_of_ble_eq_true rfl, Nat.le_of_ble_eq_true rfl⟩ ⟨Nat.le_of_ble_eq_true rfl, Nat.le_of_ble_eq_true rfl⟩ (Nat.le_of_ble_eq_true rfl) rfl dX4_init_17 ?_
  exact y_vret rfl dX4_init_20
def ze_4_256 (x : xX) (E : Nat → va_E) : Nat → va_E := uE (uE (uE (E) 257 (.inl (x.2.1.1 100, 3, .inl (fun _ => Int32.ofInt 0)))) 256 (.inr (4, [iV 0, iV 0, iV 0, .ref (x.2.2.1 + 257)]))) 257 (.inl (x.2.1.1 100, 3, .inl (fun _ => Int32.ofInt (24))))
set_option maxRecDepth 100000 in
set_option maxHeartbeats 8000000 in
theorem zt_4_256 (x : xX) (E : Nat → va_E) (hE : E 256 = .inr (4, [iV 0, iV 0, iV 0, .null])) : yMet x 2 yX4_init cX4_init 1 [.ref (x.2.2.1 + 256)] 1 3 257 E 258 (ze_4_256 x E) := by
  refine yMet_of (by decide +kernel) (Nat.le_of_ble_eq_true rfl) yI (fun _ _ h => h) ?_
  show yGr x (yRm 2 1 3, RX4, cX4_init, 1, none, yI) (0, 0) (yFin x (yQ x 258 (ze_4_256 x E)) 1 3) (yR x 257 E) 0 [(0, .ref (x.2.2.1 + 256))] []
  refine y_aload_n 0 rfl dX4_init_0 ?_
  refine y_obj zl_X4_3 zo_ins zo_code ⟨Nat.le_of_ble_eq_true rfl, Nat.le_of_ble_eq_true rfl⟩ (Nat.le_of_ble_eq_true rfl) dX4_init_1 ?_
  refine y_aload_n 0 rfl dX4_init_4 ?_
  refine y_iconst dX4_init_5 ?_
  refine y_newI (K := 257) (K2 := 258) (cs2 := (1, 3)) 3 za_int (by decide) (by decide) (by decide) ⟨Nat.le_of_ble_eq_true rfl, Nat.le_of_ble_eq_true rfl⟩ rfl rfl dX4_init_6 ?_
  refine y_putF (k := 256) 3 [iV 0, iV 0, iV 0, .ref (x.2.2.1 + 257)] (by decide) hE (Nat.le_of_ble_eq_true rfl) rfl rfl (by decide) inT4 fl_X4_9 tyX4 tyX4_ok nmX4 rfl (fun _ _ h => h) rfl rfl rfl dX4_init_8 ?_
  refine y_aload_n 0 rfl dX4_init_11 ?_
  refine y_get (k := 256) (v := .ref (x.2.2.1 + 257)) 3 (by decide) rfl rfl rfl (by decide) inT4 fl_X4_9 dX4_init_12 ?_
  refine y_bipush dX4_init_15 (by decide) ?_
  refine y_callS (cs2 := (1, 3)) (As := [.ref (x.2.2.1 + 257), iV 24]) cal_J7_fill_53178 sta_J7_fill_53178 (y_fillM x (k := 257) (n := 3) (v := 24) (by decide) rfl (by decide)) rfl zl_X4_15 ⟨Nat.le_of_ble_eq_true rfl, Nat.le_of_ble_eq_true rfl⟩ ⟨Nat.le_of_ble_eq_true rfl, Nat.le_of_ble_eq_true rfl⟩ (Nat.le_of_ble_eq_true rfl) rfl dX4_init_17 ?_
  exact y_vret rfl dX4_init_20
def ze_4_258 (x : xX) (E : Nat → va_E) : Nat → va_E := uE (uE (uE (E) 259 (.inl (x.2.1.1 100, 3, .inl (fun _ => Int32.ofInt 0)))) 258 (.inr (4, [iV 0, iV 0, iV 0, .ref (x.2.2.1 + 259)]))) 259 (.inl (x.2.1.1 100, 3, .inl (fun _ => Int32.ofInt (24))))
set_option maxRecDepth 100000 in
set_option maxHeartbeats 8000000 in
theorem zt_4_258 (x : xX) (E : Nat → va_E) (hE : E 258 = .inr (4, [iV 0, iV 0, iV 0, .null])) : yMet x 2 yX4_init cX4_init 1 [.ref (x.2.2.1 + 258)] 1 3 259 E 260 (ze_4_258 x E) := by
  refine yMet_of (by decide +kernel) (Nat.le_of_ble_eq_true rfl) yI (fun _ _ h => h) ?_
  show yGr x (yRm 2 1 3, RX4, cX4_init, 1, none, yI) (0, 0) (yFin x (yQ x 260 (ze_4_258 x E)) 1 3) (yR x 259 E) 0 [(0, .ref (x.2.2.1 + 258))] []
  refine y_aload_n 0 rfl dX4_init_0 ?_
  refine y_obj zl_X4_3 zo_ins zo_code ⟨Nat.le_of_ble_eq_true rfl, Nat.le_of_ble_eq_true rfl⟩ (Nat.le_of_ble_eq_true rfl) dX4_init_1 ?_
  refine y_aload_n 0 rfl dX4_init_4 ?_
  refine y_iconst dX4_init_5 ?_
  refine y_newI (K := 259) (K2 := 260) (cs2 := (1, 3)) 3 za_int (by decide) (by decide) (by decide) ⟨Nat.le_of_ble_eq_true rfl, Nat.le_of_ble_eq_true rfl⟩ rfl rfl dX4_init_6 ?_
  refine y_putF (k := 258) 3 [iV 0, iV 0, iV 0, .ref (x.2.2.1 + 259)] (by decide) hE (Nat.le_of_ble_eq_true rfl) rfl rfl (by decide) inT4 fl_X4_9 tyX4 tyX4_ok nmX4 rfl (fun _ _ h => h) rfl rfl rfl dX4_init_8 ?_
  refine y_aload_n 0 rfl dX4_init_11 ?_
  refine y_get (k := 258) (v := .ref (x.2.2.1 + 259)) 3 (by decide) rfl rfl rfl (by decide) inT4 fl_X4_9 dX4_init_12 ?_
  refine y_bipush dX4_init_15 (by decide) ?_
  refine y_callS (cs2 := (1, 3)) (As := [.ref (x.2.2.1 + 259), iV 24]) cal_J7_fill_53178 sta_J7_fill_53178 (y_fillM x (k := 259) (n := 3) (v := 24) (by decide) rfl (by decide)) rfl zl_X4_15 ⟨Nat.le_of_ble_eq_true rfl, Nat.le_of_ble_eq_true rfl⟩ ⟨Nat.le_of_ble_eq_true rfl, Nat.le_of_ble_eq_true rfl⟩ (Nat.le_of_ble_eq_true rfl) rfl dX4_init_17 ?_
  exact y_vret rfl dX4_init_20
def ze_10_0 (x : xX) (E : Nat → va_E) : Nat → va_E := uE (ze_4_258 x (uE (uE (ze_4_256 x (uE (uE (ze_4_254 x (uE (uE (uE (uE (ze_4_251 x (uE (uE (ze_4_249 x (uE (uE (ze_6_247 x (uE (uE (ze_7_236 x (uE (uE (ze_8_235 x (uE (uE (ze_0_232 x (uE (uE (uE (uE (ze_9_226 x (uE (uE (ze_9_221 x (uE (uE (ze_9_216 x (uE (uE (ze_9_211 x (uE (uE (ze_3_208 x (uE (uE (ze_1_73 x (uE (uE (ze_2_39 x (uE (uE (ze_5_35 x (uE (uE (ze_2_1 x (uE (E) 1 (.inr (2, [iV 0, iV 0, iV 0, iV 0, iV 0, iV 0, iV 0, .null, .null, .null, .null, .null, .null, .null, .null])))) 0 (.inr (10, [.ref (x.2.2.1 + 1), .null, .null, .null, .null, .null, .null, .null, .null, .null, .null, .null, .null, .null, .null, .null, .null, iV 0, iV 0]))) 35 (.inr (5, [iV 0, iV 0, iV 0, .null, .null, .null, .null, iV 0, iV 0, iV 0, iV 0, iV 0, iV 0, iV 0])))) 0 (.inr (10, [.ref (x.2.2.1 + 1), .ref (x.2.2.1 + 35), .null, .null, .null, .null, .null, .null, .null, .null, .null, .null, .null, .null, .null, .null, .null, iV 0, iV 0]))) 39 (.inr (2, [iV 0, iV 0, iV 0, iV 0, iV 0, iV 0, iV 0, .null, .null, .null, .null, .null, .null, .null, .null])))) 0 (.inr (10, [.ref (x.2.2.1 + 1), .ref (x.2.2.1 + 35), .ref (x.2.2.1 + 39), .null, .null, .null, .null, .null, .null, .null, .null, .null, .null, .null, .null, .null, .null, iV 0, iV 0]))) 73 (.inr (1, [.null, .null, .null, .null, .null, .null, .null, .null, .null, .null, .null])))) 0 (.inr (10, [.ref (x.2.2.1 + 1), .ref (x.2.2.1 + 35), .ref (x.2.2.1 + 39), .ref (x.2.2.1 + 73), .null, .null, .null, .null, .null, .null, .null, .null, .null, .null, .null, .null, .null, iV 0, iV 0]))) 208 (.inr (3, [.null, .null, .null, .null])))) 0 (.inr (10, [.ref (x.2.2.1 + 1), .ref (x.2.2.1 + 35), .ref (x.2.2.1 + 39), .ref (x.2.2.1 + 73), .ref (x.2.2.1 + 208), .null, .null, .null, .null, .null, .null, .null, .null, .null, .null, .null, .null, iV 0, iV 0]))) 211 (.inr (9, [iV 0, iV 0, iV 0, iV 0, iV 0, iV 0, .null, .null, .null, .null, .null, iV 0, iV 0, iV 0, iV 0, iV 0, iV 0, iV 0])))) 0 (.inr (10, [.ref (x.2.2.1 + 1), .ref (x.2.2.1 + 35), .ref (x.2.2.1 + 39), .ref (x.2.2.1 + 73), .ref (x.2.2.1 + 208), .ref (x.2.2.1 + 211), .null, .null, .null, .null, .null, .null, .null, .null, .null, .null, .null, iV 0, iV 0]))) 216 (.inr (9, [iV 0, iV 0, iV 0, iV 0, iV 0, iV 0, .null, .null, .null, .null, .null, iV 0, iV 0, iV 0, iV 0, iV 0, iV 0, iV 0])))) 0 (.inr (10, [.ref (x.2.2.1 + 1), .ref (x.2.2.1 + 35), .ref (x.2.2.1 + 39), .ref (x.2.2.1 + 73), .ref (x.2.2.1 + 208), .ref (x.2.2.1 + 211), .ref (x.2.2.1 + 216), .null, .null, .null, .null, .null, .null, .null, .null, .null, .null, iV 0, iV 0]))) 221 (.inr (9, [iV 0, iV 0, iV 0, iV 0, iV 0, iV 0, .null, .null, .null, .null, .null, iV 0, iV 0, iV 0, iV 0, iV 0, iV 0, iV 0])))) 0 (.inr (10, [.ref (x.2.2.1 + 1), .ref (x.2.2.1 + 35), .ref (x.2.2.1 + 39), .ref (x.2.2.1 + 73), .ref (x.2.2.1 + 208), .ref (x.2.2.1 + 211), .ref (x.2.2.1 + 216), .ref (x.2.2.1 + 221), .null, .null, .null, .null, .null, .null, .null, .null, .null, iV 0, iV 0]))) 226 (.inr (9, [iV 0, iV 0, iV 0, iV 0, iV 0, iV 0, .null, .null, .null, .null, .null, iV 0, iV 0, iV 0, iV 0, iV 0, iV 0, iV 0])))) 0 (.inr (10, [.ref (x.2.2.1 + 1), .ref (x.2.2.1 + 35), .ref (x.2.2.1 + 39), .ref (x.2.2.1 + 73), .ref (x.2.2.1 + 208), .ref (x.2.2.1 + 211), .ref (x.2.2.1 + 216), .ref (x.2.2.1 + 221), .ref (x.2.2.1 + 226), .null, .null, .null, .null, .null, .null, .null, .null, iV 0, iV 0]))) 231 (.inl (x.2.1.1 100, 26, .inl (fun _ => Int32.ofInt 0)))) 0 (.inr (10, [.ref (x.2.2.1 + 1), .ref (x.2.2.1 + 35), .ref (x.2.2.1 + 39), .ref (x.2.2.1 + 73), .ref (x.2.2.1 + 208), .ref (x.2.2.1 + 211), .ref (x.2.2.1 + 216), .ref (x.2.2.1 + 221), .ref (x.2.2.1 + 226), .ref (x.2.2.1 + 231), .null, .null, .null, .null, .null, .null, .null, iV 0, iV 0]))) 232 (.inr (0, [.null, .null, .null, .null, iV 0, iV 0])))) 0 (.inr (10, [.ref (x.2.2.1 + 1), .ref (x.2.2.1 + 35), .ref (x.2.2.1 + 39), .ref (x.2.2.1 + 73), .ref (x.2.2.1 + 208), .ref (x.2.2.1 + 211), .ref (x.2.2.1 + 216), .ref (x.2.2.1 + 221), .ref (x.2.2.1 + 226), .ref (x.2.2.1 + 231), .ref (x.2.2.1 + 232), .null, .null, .null, .null, .null, .null, iV 0, iV 0]))) 235 (.inr (8, [.null, .null, .null])))) 0 (.inr (10, [.ref (x.2.2.1 + 1), .ref (x.2.2.1 + 35), .ref (x.2.2.1 + 39), .ref (x.2.2.1 + 73), .ref (x.2.2.1 + 208), .ref (x.2.2.1 + 211), .ref (x.2.2.1 + 216), .ref (x.2.2.1 + 221), .ref (x.2.2.1 + 226), .ref (x.2.2.1 + 231), .ref (x.2.2.1 + 232), .ref (x.2.2.1 + 235), .null, .null, .null, .null, .null, iV 0, iV 0]))) 236 (.inr (7, [.null, .null, .null, .null, .null, .null, .null, .null, .null, iV 0, iV 0, iV 0, iV 0])))) 0 (.inr (10, [.ref (x.2.2.1 + 1), .ref (x.2.2.1 + 35), .ref (x.2.2.1 + 39), .ref (x.2.2.1 + 73), .ref (x.2.2.1 + 208), .ref (x.2.2.1 + 211), .ref (x.2.2.1 + 216), .ref (x.2.2.1 + 221), .ref (x.2.2.1 + 226), .ref (x.2.2.1 + 231), .ref (x.2.2.1 + 232), .ref (x.2.2.1 + 235), .ref (x.2.2.1 + 236), .null, .null, .null, .null, iV 0, iV 0]))) 247 (.inr (6, [.null, .null, .null])))) 0 (.inr (10, [.ref (x.2.2.1 + 1), .ref (x.2.2.1 + 35), .ref (x.2.2.1 + 39), .ref (x.2.2.1 + 73), .ref (x.2.2.1 + 208), .ref (x.2.2.1 + 211), .ref (x.2.2.1 + 216), .ref (x.2.2.1 + 221), .ref (x.2.2.1 + 226), .ref (x.2.2.1 + 231), .ref (x.2.2.1 + 232), .ref (x.2.2.1 + 235), .ref (x.2.2.1 + 236), .ref (x.2.2.1 + 247), .null, .null, .null, iV 0, iV 0]))) 249 (.inr (4, [iV 0, iV 0, iV 0, .null])))) 0 (.inr (10, [.ref (x.2.2.1 + 1), .ref (x.2.2.1 + 35), .ref (x.2.2.1 + 39), .ref (x.2.2.1 + 73), .ref (x.2.2.1 + 208), .ref (x.2.2.1 + 211), .ref (x.2.2.1 + 216), .ref (x.2.2.1 + 221), .ref (x.2.2.1 + 226), .ref (x.2.2.1 + 231), .ref (x.2.2.1 + 232), .ref (x.2.2.1 + 235), .ref (x.2.2.1 + 236), .ref (x.2.2.1 + 247), .ref (x.2.2.1 + 249), .null, .null, iV 0, iV 0]))) 251 (.inr (4, [iV 0, iV 0, iV 0, .null])))) 0 (.inr (10, [.ref (x.2.2.1 + 1), .ref (x.2.2.1 + 35), .ref (x.2.2.1 + 39), .ref (x.2.2.1 + 73), .ref (x.2.2.1 + 208), .ref (x.2.2.1 + 211), .ref (x.2.2.1 + 216), .ref (x.2.2.1 + 221), .ref (x.2.2.1 + 226), .ref (x.2.2.1 + 231), .ref (x.2.2.1 + 232), .ref (x.2.2.1 + 235), .ref (x.2.2.1 + 236), .ref (x.2.2.1 + 247), .ref (x.2.2.1 + 249), .ref (x.2.2.1 + 251), .null, iV 0, iV 0]))) 253 (.inl (x.2.1.1 103, 3, .inr (.inr (.inr (.inr (fun _ => none))))))) 0 (.inr (10, [.ref (x.2.2.1 + 1), .ref (x.2.2.1 + 35), .ref (x.2.2.1 + 39), .ref (x.2.2.1 + 73), .ref (x.2.2.1 + 208), .ref (x.2.2.1 + 211), .ref (x.2.2.1 + 216), .ref (x.2.2.1 + 221), .ref (x.2.2.1 + 226), .ref (x.2.2.1 + 231), .ref (x.2.2.1 + 232), .ref (x.2.2.1 + 235), .ref (x.2.2.1 + 236), .ref (x.2.2.1 + 247), .ref (x.2.2.1 + 249), .ref (x.2.2.1 + 251), .ref (x.2.2.1 + 253), iV 0, iV 0]))) 254 (.inr (4, [iV 0, iV 0, iV 0, .null])))) 253 (.inl (x.2.1.1 103, 3, .inr (.inr (.inr (.inr (va_up (fun _ => none) (Int.toNat 0) (some (x.2.2.1 + 254))))))))) 256 (.inr (4, [iV 0, iV 0, iV 0, .null])))) 253 (.inl (x.2.1.1 103, 3, .inr (.inr (.inr (.inr (va_up (va_up (fun _ => none) (Int.toNat 0) (some (x.2.2.1 + 254))) (Int.toNat 1) (some (x.2.2.1 + 256))))))))) 258 (.inr (4, [iV 0, iV 0, iV 0, .null])))) 253 (.inl (x.2.1.1 103, 3, .inr (.inr (.inr (.inr (va_up (va_up (va_up (fun _ => none) (Int.toNat 0) (some (x.2.2.1 + 254))) (Int.toNat 1) (some (x.2.2.1 + 256))) (Int.toNat 2) (some (x.2.2.1 + 258))))))))
set_option maxRecDepth 100000 in
set_option maxHeartbeats 8000000 in
theorem zt_10_0 (x : xX) (E : Nat → va_E) (hE : E 0 = .inr (10, [.null, .null, .null, .null, .null, .null, .null, .null, .null, .null, .null, .null, .null, .null, .null, .null, .null, iV 0, iV 0])) : yMet x 3 yX10_init cX10_init 2 [.ref (x.2.2.1 + 0)] 259 52210 1 E 260 (ze_10_0 x E) := by
  refine yMet_of (by decide +kernel) (Nat.le_of_ble_eq_true rfl) yI (fun _ _ h => h) ?_
  show yGr x (yRm 3 259 52210, RX10, cX10_init, 2, none, yI) (0, 0) (yFin x (yQ x 260 (ze_10_0 x E)) 259 52210) (yR x 1 E) 0 [(0, .ref (x.2.2.1 + 0))] []
  refine y_aload_n 0 rfl dX10_init_0 ?_
  refine y_obj zl_X10_3 zo_ins zo_code ⟨Nat.le_of_ble_eq_true rfl, Nat.le_of_ble_eq_true rfl⟩ (Nat.le_of_ble_eq_true rfl) dX10_init_1 ?_
  refine y_aload_n 0 rfl dX10_init_4 ?_
  refine y_new (K := 1) (K2 := 2) (cs2 := (1, 15)) (ci := 2) (fs := [iV 0, iV 0, iV 0, iV 0, iV 0, iV 0, iV 0, .null, .null, .null, .null, .null, .null, .null, .null]) rfl inT2 tyX2 tyX2_ok zk_X10_9 zi_2 zn_2 zf_2 ⟨Nat.le_of_ble_eq_true rfl, Nat.le_of_ble_eq_true rfl⟩ rfl rfl dX10_init_5 ?_
  refine y_dup rfl dX10_init_8 ?_
  refine y_call (cs2 := (34, 288)) (As := []) zc_2 rfl zm_2 (zt_2_1 x _ rfl) rfl zl_X10_11 ⟨Nat.le_of_ble_eq_true rfl, Nat.le_of_ble_eq_true rfl⟩ ⟨Nat.le_of_ble_eq_true rfl, Nat.le_of_ble_eq_true rfl⟩ (Nat.le_of_ble_eq_true rfl) rfl dX10_init_9 ?_
  refine y_putF (k := 0) 0 [.ref (x.2.2.1 + 1), .null, .null, .null, .null, .null, .null, .null, .null, .null, .null, .null, .null, .null, .null, .null, .null, iV 0, iV 0] (by decide) hE (Nat.le_of_ble_eq_true rfl) rfl rfl (by decide) inT10 fl_X10_12 tyX10 tyX10_ok nmX10 rfl (fun _ _ h => h) rfl rfl rfl dX10_init_12 ?_
  refine y_aload_n 0 rfl dX10_init_15 ?_
  refine y_new (K := 35) (K2 := 36) (cs2 := (35, 302)) (ci := 5) (fs := [iV 0, iV 0, iV 0, .null, .null, .null, .null, iV 0, iV 0, iV 0, iV 0, iV 0, iV 0, iV 0]) rfl inT5 tyX5 tyX5_ok zk_X10_16 zi_5 zn_5 zf_5 ⟨Nat.le_of_ble_eq_true rfl, Nat.le_of_ble_eq_true rfl⟩ rfl rfl dX10_init_16 ?_
  refine y_dup rfl dX10_init_19 ?_
  refine y_aload_n 0 rfl dX10_init_20 ?_
  refine y_get (k := 0) (v := .ref (x.2.2.1 + 1)) 0 (by decide) rfl rfl rfl (by decide) inT10 fl_X10_12 dX10_init_21 ?_
  refine y_call (cs2 := (38, 1218)) (As := [.ref (x.2.2.1 + 1)]) zc_5 rfl zm_5 (zt_5_35 x _ rfl) rfl zl_X10_18 ⟨Nat.le_of_ble_eq_true rfl, Nat.le_of_ble_eq_true rfl⟩ ⟨Nat.le_of_ble_eq_true rfl, Nat.le_of_ble_eq_true rfl⟩ (Nat.le_of_ble_eq_true rfl) rfl dX10_init_24 ?_
  refine y_putF (k := 0) 1 [.ref (x.2.2.1 + 1), .ref (x.2.2.1 + 35), .null, .null, .null, .null, .null, .null, .null, .null, .null, .null, .null, .null, .null, .null, .null, iV 0, iV 0] (by decide) rfl (Nat.le_of_ble_eq_true rfl) rfl rfl (by decide) inT10 fl_X10_21 tyX10 tyX10_ok nmX10 rfl (fun _ _ h => h) rfl rfl rfl dX10_init_27 ?_
  refine y_aload_n 0 rfl dX10_init_30 ?_
  refine y_new (K := 39) (K2 := 40) (cs2 := (39, 1233)) (ci := 2) (fs := [iV 0, iV 0, iV 0, iV 0, iV 0, iV 0, iV 0, .null, .null, .null, .null, .null, .null, .null, .null]) rfl inT2 tyX2 tyX2_ok zk_X10_9 zi_2 zn_2 zf_2 ⟨Nat.le_of_ble_eq_true rfl, Nat.le_of_ble_eq_true rfl⟩ rfl rfl dX10_init_31 ?_
  refine y_dup rfl dX10_init_34 ?_
  refine y_call (cs2 := (72, 1506)) (As := []) zc_2 rfl zm_2 (zt_2_39 x _ rfl) rfl zl_X10_11 ⟨Nat.le_of_ble_eq_true rfl, Nat.le_of_ble_eq_true rfl⟩ ⟨Nat.le_of_ble_eq_true rfl, Nat.le_of_ble_eq_true rfl⟩ (Nat.le_of_ble_eq_true rfl) rfl dX10_init_35 ?_
  refine y_putF (k := 0) 2 [.ref (x.2.2.1 + 1), .ref (x.2.2.1 + 35), .ref (x.2.2.1 + 39), .null, .null, .null, .null, .null, .null, .null, .null, .null, .null, .null, .null, .null, .null, iV 0, iV 0] (by decide) rfl (Nat.le_of_ble_eq_true rfl) rfl rfl (by decide) inT10 fl_X10_25 tyX10 tyX10_ok nmX10 rfl (fun _ _ h => h) rfl rfl rfl dX10_init_38 ?_
  refine y_aload_n 0 rfl dX10_init_41 ?_
  refine y_new (K := 73) (K2 := 74) (cs2 := (73, 1517)) (ci := 1) (fs := [.null, .null, .null, .null, .null, .null, .null, .null, .null, .null, .null]) rfl inT1 tyX1 tyX1_ok zk_X10_28 zi_1 zn_1 zf_1 ⟨Nat.le_of_ble_eq_true rfl, Nat.le_of_ble_eq_true rfl⟩ rfl rfl dX10_init_42 ?_
  refine y_dup rfl dX10_init_45 ?_
  refine y_aload_n 0 rfl dX10_init_46 ?_
  refine y_get (k := 0) (v := .ref (x.2.2.1 + 39)) 2 (by decide) rfl rfl rfl (by decide) inT10 fl_X10_25 dX10_init_47 ?_
  refine y_call (cs2 := (207, 4765)) (As := [.ref (x.2.2.1 + 39)]) zc_1 rfl zm_1 (zt_1_73 x _ rfl) rfl zl_X10_30 ⟨Nat.le_of_ble_eq_true rfl, Nat.le_of_ble_eq_true rfl⟩ ⟨Nat.le_of_ble_eq_true rfl, Nat.le_of_ble_eq_true rfl⟩ (Nat.le_of_ble_eq_true rfl) rfl dX10_init_50 ?_
  refine y_putF (k := 0) 3 [.ref (x.2.2.1 + 1), .ref (x.2.2.1 + 35), .ref (x.2.2.1 + 39), .ref (x.2.2.1 + 73), .null, .null, .null, .null, .null, .null, .null, .null, .null, .null, .null, .null, .null, iV 0, iV 0] (by decide) rfl (Nat.le_of_ble_eq_true rfl) rfl rfl (by decide) inT10 fl_X10_31 tyX10 tyX10_ok nmX10 rfl (fun _ _ h => h) rfl rfl rfl dX10_init_53 ?_
  refine y_aload_n 0 rfl dX10_init_56 ?_
  refine y_new (K := 208) (K2 := 209) (cs2 := (208, 4769)) (ci := 3) (fs := [.null, .null, .null, .null]) rfl inT3 tyX3 tyX3_ok zk_X10_35 zi_3 zn_3 zf_3 ⟨Nat.le_of_ble_eq_true rfl, Nat.le_of_ble_eq_true rfl⟩ rfl rfl dX10_init_57 ?_
  refine y_dup rfl dX10_init_60 ?_
  refine y_aload_n 0 rfl dX10_init_61 ?_
  refine y_get (k := 0) (v := .ref (x.2.2.1 + 39)) 2 (by decide) rfl rfl rfl (by decide) inT10 fl_X10_25 dX10_init_62 ?_
  refine y_aload_n 0 rfl dX10_init_65 ?_
  refine y_get (k := 0) (v := .ref (x.2.2.1 + 73)) 3 (by decide) rfl rfl rfl (by decide) inT10 fl_X10_31 dX10_init_66 ?_
  refine y_call (cs2 := (210, 4817)) (As := [.ref (x.2.2.1 + 39), .ref (x.2.2.1 + 73)]) zc_3 rfl zm_3 (zt_3_208 x _ rfl) rfl zl_X10_37 ⟨Nat.le_of_ble_eq_true rfl, Nat.le_of_ble_eq_true rfl⟩ ⟨Nat.le_of_ble_eq_true rfl, Nat.le_of_ble_eq_true rfl⟩ (Nat.le_of_ble_eq_true rfl) rfl dX10_init_69 ?_
  refine y_putF (k := 0) 4 [.ref (x.2.2.1 + 1), .ref (x.2.2.1 + 35), .ref (x.2.2.1 + 39), .ref (x.2.2.1 + 73), .ref (x.2.2.1 + 208), .null, .null, .null, .null, .null, .null, .null, .null, .null, .null, .null, .null, iV 0, iV 0] (by decide) rfl (Nat.le_of_ble_eq_true rfl) rfl rfl (by decide) inT10 fl_X10_40 tyX10 tyX10_ok nmX10 rfl (fun _ _ h => h) rfl rfl rfl dX10_init_72 ?_
  refine y_aload_n 0 rfl dX10_init_75 ?_
  refine y_new (K := 211) (K2 := 212) (cs2 := (211, 4835)) (ci := 9) (fs := [iV 0, iV 0, iV 0, iV 0, iV 0, iV 0, .null, .null, .null, .null, .null, iV 0, iV 0, iV 0, iV 0, iV 0, iV 0, iV 0]) rfl inT9 tyX9 tyX9_ok zk_X10_44 zi_9 zn_9 zf_9 ⟨Nat.le_of_ble_eq_true rfl, Nat.le_of_ble_eq_true rfl⟩ rfl rfl dX10_init_76 ?_
  refine y_dup rfl dX10_init_79 ?_
  refine y_aload_n 0 rfl dX10_init_80 ?_
  refine y_get (k := 0) (v := .ref (x.2.2.1 + 39)) 2 (by decide) rfl rfl rfl (by decide) inT10 fl_X10_25 dX10_init_81 ?_
  refine y_call (cs2 := (215, 4891)) (As := [.ref (x.2.2.1 + 39)]) zc_9 rfl zm_9 (zt_9_211 x _ rfl) rfl zl_X10_46 ⟨Nat.le_of_ble_eq_true rfl, Nat.le_of_ble_eq_true rfl⟩ ⟨Nat.le_of_ble_eq_true rfl, Nat.le_of_ble_eq_true rfl⟩ (Nat.le_of_ble_eq_true rfl) rfl dX10_init_84 ?_
  refine y_putF (k := 0) 5 [.ref (x.2.2.1 + 1), .ref (x.2.2.1 + 35), .ref (x.2.2.1 + 39), .ref (x.2.2.1 + 73), .ref (x.2.2.1 + 208), .ref (x.2.2.1 + 211), .null, .null, .null, .null, .null, .null, .null, .null, .null, .null, .null, iV 0, iV 0] (by decide) rfl (Nat.le_of_ble_eq_true rfl) rfl rfl (by decide) inT10 fl_X10_47 tyX10 tyX10_ok nmX10 rfl (fun _ _ h => h) rfl rfl rfl dX10_init_87 ?_
  refine y_aload_n 0 rfl dX10_init_90 ?_
  refine y_new (K := 216) (K2 := 217) (cs2 := (216, 4909)) (ci := 9) (fs := [iV 0, iV 0, iV 0, iV 0, iV 0, iV 0, .null, .null, .null, .null, .null, iV 0, iV 0, iV 0, iV 0, iV 0, iV 0, iV 0]) rfl inT9 tyX9 tyX9_ok zk_X10_44 zi_9 zn_9 zf_9 ⟨Nat.le_of_ble_eq_true rfl, Nat.le_of_ble_eq_true rfl⟩ rfl rfl dX10_init_91 ?_
  refine y_dup rfl dX10_init_94 ?_
  refine y_aload_n 0 rfl dX10_init_95 ?_
  refine y_get (k := 0) (v := .ref (x.2.2.1 + 39)) 2 (by decide) rfl rfl rfl (by decide) inT10 fl_X10_25 dX10_init_96 ?_
  refine y_call (cs2 := (220, 4965)) (As := [.ref (x.2.2.1 + 39)]) zc_9 rfl zm_9 (zt_9_216 x _ rfl) rfl zl_X10_46 ⟨Nat.le_of_ble_eq_true rfl, Nat.le_of_ble_eq_true rfl⟩ ⟨Nat.le_of_ble_eq_true rfl, Nat.le_of_ble_eq_true rfl⟩ (Nat.le_of_ble_eq_true rfl) rfl dX10_init_99 ?_
  refine y_putF (k := 0) 6 [.ref (x.2.2.1 + 1), .ref (x.2.2.1 + 35), .ref (x.2.2.1 + 39), .ref (x.2.2.1 + 73), .ref (x.2.2.1 + 208), .ref (x.2.2.1 + 211), .ref (x.2.2.1 + 216), .null, .null, .null, .null, .null, .null, .null, .null, .null, .null, iV 0, iV 0] (by decide) rfl (Nat.le_of_ble_eq_true rfl) rfl rfl (by decide) inT10 fl_X10_51 tyX10 tyX10_ok nmX10 rfl (fun _ _ h => h) rfl rfl rfl dX10_init_102 ?_
  refine y_aload_n 0 rfl dX10_init_105 ?_
  refine y_new (K := 221) (K2 := 222) (cs2 := (221, 4983)) (ci := 9) (fs := [iV 0, iV 0, iV 0, iV 0, iV 0, iV 0, .null, .null, .null, .null, .null, iV 0, iV 0, iV 0, iV 0, iV 0, iV 0, iV 0]) rfl inT9 tyX9 tyX9_ok zk_X10_44 zi_9 zn_9 zf_9 ⟨Nat.le_of_ble_eq_true rfl, Nat.le_of_ble_eq_true rfl⟩ rfl rfl dX10_init_106 ?_
  refine y_dup rfl dX10_init_109 ?_
  refine y_aload_n 0 rfl dX10_init_110 ?_
  refine y_get (k := 0) (v := .ref (x.2.2.1 + 39)) 2 (by decide) rfl rfl rfl (by decide) inT10 fl_X10_25 dX10_init_111 ?_
  refine y_call (cs2 := (225, 5039)) (As := [.ref (x.2.2.1 + 39)]) zc_9 rfl zm_9 (zt_9_221 x _ rfl) rfl zl_X10_46 ⟨Nat.le_of_ble_eq_true rfl, Nat.le_of_ble_eq_true rfl⟩ ⟨Nat.le_of_ble_eq_true rfl, Nat.le_of_ble_eq_true rfl⟩ (Nat.le_of_ble_eq_true rfl) rfl dX10_init_114 ?_
  refine y_putF (k := 0) 7 [.ref (x.2.2.1 + 1), .ref (x.2.2.1 + 35), .ref (x.2.2.1 + 39), .ref (x.2.2.1 + 73), .ref (x.2.2.1 + 208), .ref (x.2.2.1 + 211), .ref (x.2.2.1 + 216), .ref (x.2.2.1 + 221), .null, .null, .null, .null, .null, .null, .null, .null, .null, iV 0, iV 0] (by decide) rfl (Nat.le_of_ble_eq_true rfl) rfl rfl (by decide) inT10 fl_X10_54 tyX10 tyX10_ok nmX10 rfl (fun _ _ h => h) rfl rfl rfl dX10_init_117 ?_
  refine y_aload_n 0 rfl dX10_init_120 ?_
  refine y_new (K := 226) (K2 := 227) (cs2 := (226, 5057)) (ci := 9) (fs := [iV 0, iV 0, iV 0, iV 0, iV 0, iV 0, .null, .null, .null, .null, .null, iV 0, iV 0, iV 0, iV 0, iV 0, iV 0, iV 0]) rfl inT9 tyX9 tyX9_ok zk_X10_44 zi_9 zn_9 zf_9 ⟨Nat.le_of_ble_eq_true rfl, Nat.le_of_ble_eq_true rfl⟩ rfl rfl dX10_init_121 ?_
  refine y_dup rfl dX10_init_124 ?_
  refine y_aload_n 0 rfl dX10_init_125 ?_
  refine y_get (k := 0) (v := .ref (x.2.2.1 + 39)) 2 (by decide) rfl rfl rfl (by decide) inT10 fl_X10_25 dX10_init_126 ?_
  refine y_call (cs2 := (230, 5113)) (As := [.ref (x.2.2.1 + 39)]) zc_9 rfl zm_9 (zt_9_226 x _ rfl) rfl zl_X10_46 ⟨Nat.le_of_ble_eq_true rfl, Nat.le_of_ble_eq_true rfl⟩ ⟨Nat.le_of_ble_eq_true rfl, Nat.le_of_ble_eq_true rfl⟩ (Nat.le_of_ble_eq_true rfl) rfl dX10_init_129 ?_
  refine y_putF (k := 0) 8 [.ref (x.2.2.1 + 1), .ref (x.2.2.1 + 35), .ref (x.2.2.1 + 39), .ref (x.2.2.1 + 73), .ref (x.2.2.1 + 208), .ref (x.2.2.1 + 211), .ref (x.2.2.1 + 216), .ref (x.2.2.1 + 221), .ref (x.2.2.1 + 226), .null, .null, .null, .null, .null, .null, .null, .null, iV 0, iV 0] (by decide) rfl (Nat.le_of_ble_eq_true rfl) rfl rfl (by decide) inT10 fl_X10_57 tyX10 tyX10_ok nmX10 rfl (fun _ _ h => h) rfl rfl rfl dX10_init_132 ?_
  refine y_aload_n 0 rfl dX10_init_135 ?_
  refine y_bipush dX10_init_136 (by decide) ?_
  refine y_newI (K := 231) (K2 := 232) (cs2 := (231, 5139)) 26 za_int (by decide) (by decide) (by decide) ⟨Nat.le_of_ble_eq_true rfl, Nat.le_of_ble_eq_true rfl⟩ rfl rfl dX10_init_138 ?_
  refine y_putF (k := 0) 9 [.ref (x.2.2.1 + 1), .ref (x.2.2.1 + 35), .ref (x.2.2.1 + 39), .ref (x.2.2.1 + 73), .ref (x.2.2.1 + 208), .ref (x.2.2.1 + 211), .ref (x.2.2.1 + 216), .ref (x.2.2.1 + 221), .ref (x.2.2.1 + 226), .ref (x.2.2.1 + 231), .null, .null, .null, .null, .null, .null, .null, iV 0, iV 0] (by decide) rfl (Nat.le_of_ble_eq_true rfl) rfl rfl (by decide) inT10 fl_X10_60 tyX10 tyX10_ok nmX10 rfl (fun _ _ h => h) rfl rfl rfl dX10_init_140 ?_
  refine y_aload_n 0 rfl dX10_init_143 ?_
  refine y_new (K := 232) (K2 := 233) (cs2 := (232, 5145)) (ci := 0) (fs := [.null, .null, .null, .null, iV 0, iV 0]) rfl inT0 tyX0 tyX0_ok zk_X10_64 zi_0 zn_0 zf_0 ⟨Nat.le_of_ble_eq_true rfl, Nat.le_of_ble_eq_true rfl⟩ rfl rfl dX10_init_144 ?_
  refine y_dup rfl dX10_init_147 ?_
  refine y_aload_n 0 rfl dX10_init_148 ?_
  refine y_get (k := 0) (v := .ref (x.2.2.1 + 39)) 2 (by decide) rfl rfl rfl (by decide) inT10 fl_X10_25 dX10_init_149 ?_
  refine y_aload_n 0 rfl dX10_init_152 ?_
  refine y_get (k := 0) (v := .ref (x.2.2.1 + 73)) 3 (by decide) rfl rfl rfl (by decide) inT10 fl_X10_31 dX10_init_153 ?_
  refine y_call (cs2 := (234, 19770)) (As := [.ref (x.2.2.1 + 39), .ref (x.2.2.1 + 73)]) zc_0 rfl zm_0 (zt_0_232 x _ rfl) rfl zl_X10_66 ⟨Nat.le_of_ble_eq_true rfl, Nat.le_of_ble_eq_true rfl⟩ ⟨Nat.le_of_ble_eq_true rfl, Nat.le_of_ble_eq_true rfl⟩ (Nat.le_of_ble_eq_true rfl) rfl dX10_init_156 ?_
  refine y_putF (k := 0) 10 [.ref (x.2.2.1 + 1), .ref (x.2.2.1 + 35), .ref (x.2.2.1 + 39), .ref (x.2.2.1 + 73), .ref (x.2.2.1 + 208), .ref (x.2.2.1 + 211), .ref (x.2.2.1 + 216), .ref (x.2.2.1 + 221), .ref (x.2.2.1 + 226), .ref (x.2.2.1 + 231), .ref (x.2.2.1 + 232), .null, .null, .null, .null, .null, .null, iV 0, iV 0] (by decide) rfl (Nat.le_of_ble_eq_true rfl) rfl rfl (by decide) inT10 fl_X10_67 tyX10 tyX10_ok nmX10 rfl (fun _ _ h => h) rfl rfl rfl dX10_init_159 ?_
  refine y_aload_n 0 rfl dX10_init_162 ?_
  refine y_new (K := 235) (K2 := 236) (cs2 := (235, 19773)) (ci := 8) (fs := [.null, .null, .null]) rfl inT8 tyX8 tyX8_ok zk_X10_71 zi_8 zn_8 zf_8 ⟨Nat.le_of_ble_eq_true rfl, Nat.le_of_ble_eq_true rfl⟩ rfl rfl dX10_init_163 ?_
  refine y_dup rfl dX10_init_166 ?_
  refine y_aload_n 0 rfl dX10_init_167 ?_
  refine y_get (k := 0) (v := .ref (x.2.2.1 + 39)) 2 (by decide) rfl rfl rfl (by decide) inT10 fl_X10_25 dX10_init_168 ?_
  refine y_aload_n 0 rfl dX10_init_171 ?_
  refine y_get (k := 0) (v := .ref (x.2.2.1 + 73)) 3 (by decide) rfl rfl rfl (by decide) inT10 fl_X10_31 dX10_init_172 ?_
  refine y_aload_n 0 rfl dX10_init_175 ?_
  refine y_get (k := 0) (v := .ref (x.2.2.1 + 232)) 10 (by decide) rfl rfl rfl (by decide) inT10 fl_X10_67 dX10_init_176 ?_
  refine y_call (cs2 := (235, 19773)) (As := [.ref (x.2.2.1 + 39), .ref (x.2.2.1 + 73), .ref (x.2.2.1 + 232)]) zc_8 rfl zm_8 (zt_8_235 x _ rfl) rfl zl_X10_73 ⟨Nat.le_of_ble_eq_true rfl, Nat.le_of_ble_eq_true rfl⟩ ⟨Nat.le_of_ble_eq_true rfl, Nat.le_of_ble_eq_true rfl⟩ (Nat.le_of_ble_eq_true rfl) rfl dX10_init_179 ?_
  refine y_putF (k := 0) 11 [.ref (x.2.2.1 + 1), .ref (x.2.2.1 + 35), .ref (x.2.2.1 + 39), .ref (x.2.2.1 + 73), .ref (x.2.2.1 + 208), .ref (x.2.2.1 + 211), .ref (x.2.2.1 + 216), .ref (x.2.2.1 + 221), .ref (x.2.2.1 + 226), .ref (x.2.2.1 + 231), .ref (x.2.2.1 + 232), .ref (x.2.2.1 + 235), .null, .null, .null, .null, .null, iV 0, iV 0] (by decide) rfl (Nat.le_of_ble_eq_true rfl) rfl rfl (by decide) inT10 fl_X10_76 tyX10 tyX10_ok nmX10 rfl (fun _ _ h => h) rfl rfl rfl dX10_init_182 ?_
  refine y_aload_n 0 rfl dX10_init_185 ?_
  refine y_new (K := 236) (K2 := 237) (cs2 := (236, 19786)) (ci := 7) (fs := [.null, .null, .null, .null, .null, .null, .null, .null, .null, iV 0, iV 0, iV 0, iV 0]) rfl inT7 tyX7 tyX7_ok zk_X10_80 zi_7 zn_7 zf_7 ⟨Nat.le_of_ble_eq_true rfl, Nat.le_of_ble_eq_true rfl⟩ rfl rfl dX10_init_186 ?_
  refine y_dup rfl dX10_init_189 ?_
  refine y_aload_n 0 rfl dX10_init_190 ?_
  refine y_get (k := 0) (v := .ref (x.2.2.1 + 39)) 2 (by decide) rfl rfl rfl (by decide) inT10 fl_X10_25 dX10_init_191 ?_
  refine y_aload_n 0 rfl dX10_init_194 ?_
  refine y_get (k := 0) (v := .ref (x.2.2.1 + 73)) 3 (by decide) rfl rfl rfl (by decide) inT10 fl_X10_31 dX10_init_195 ?_
  refine y_call (cs2 := (246, 52143)) (As := [.ref (x.2.2.1 + 39), .ref (x.2.2.1 + 73)]) zc_7 rfl zm_7 (zt_7_236 x _ rfl) rfl zl_X10_82 ⟨Nat.le_of_ble_eq_true rfl, Nat.le_of_ble_eq_true rfl⟩ ⟨Nat.le_of_ble_eq_true rfl, Nat.le_of_ble_eq_true rfl⟩ (Nat.le_of_ble_eq_true rfl) rfl dX10_init_198 ?_
  refine y_putF (k := 0) 12 [.ref (x.2.2.1 + 1), .ref (x.2.2.1 + 35), .ref (x.2.2.1 + 39), .ref (x.2.2.1 + 73), .ref (x.2.2.1 + 208), .ref (x.2.2.1 + 211), .ref (x.2.2.1 + 216), .ref (x.2.2.1 + 221), .ref (x.2.2.1 + 226), .ref (x.2.2.1 + 231), .ref (x.2.2.1 + 232), .ref (x.2.2.1 + 235), .ref (x.2.2.1 + 236), .null, .null, .null, .null, iV 0, iV 0] (by decide) rfl (Nat.le_of_ble_eq_true rfl) rfl rfl (by decide) inT10 fl_X10_83 tyX10 tyX10_ok nmX10 rfl (fun _ _ h => h) rfl rfl rfl dX10_init_201 ?_
  refine y_aload_n 0 rfl dX10_init_204 ?_
  refine y_new (K := 247) (K2 := 248) (cs2 := (247, 52146)) (ci := 6) (fs := [.null, .null, .null]) rfl inT6 tyX6 tyX6_ok zk_X10_87 zi_6 zn_6 zf_6 ⟨Nat.le_of_ble_eq_true rfl, Nat.le_of_ble_eq_true rfl⟩ rfl rfl dX10_init_205 ?_
  refine y_dup rfl dX10_init_208 ?_
  refine y_aload_n 0 rfl dX10_init_209 ?_
  refine y_get (k := 0) (v := .ref (x.2.2.1 + 39)) 2 (by decide) rfl rfl rfl (by decide) inT10 fl_X10_25 dX10_init_210 ?_
  refine y_aload_n 0 rfl dX10_init_213 ?_
  refine y_get (k := 0) (v := .ref (x.2.2.1 + 73)) 3 (by decide) rfl rfl rfl (by decide) inT10 fl_X10_31 dX10_init_214 ?_
  refine y_call (cs2 := (248, 52172)) (As := [.ref (x.2.2.1 + 39), .ref (x.2.2.1 + 73)]) zc_6 rfl zm_6 (zt_6_247 x _ rfl) rfl zl_X10_89 ⟨Nat.le_of_ble_eq_true rfl, Nat.le_of_ble_eq_true rfl⟩ ⟨Nat.le_of_ble_eq_true rfl, Nat.le_of_ble_eq_true rfl⟩ (Nat.le_of_ble_eq_true rfl) rfl dX10_init_217 ?_
  refine y_putF (k := 0) 13 [.ref (x.2.2.1 + 1), .ref (x.2.2.1 + 35), .ref (x.2.2.1 + 39), .ref (x.2.2.1 + 73), .ref (x.2.2.1 + 208), .ref (x.2.2.1 + 211), .ref (x.2.2.1 + 216), .ref (x.2.2.1 + 221), .ref (x.2.2.1 + 226), .ref (x.2.2.1 + 231), .ref (x.2.2.1 + 232), .ref (x.2.2.1 + 235), .ref (x.2.2.1 + 236), .ref (x.2.2.1 + 247), .null, .null, .null, iV 0, iV 0] (by decide) rfl (Nat.le_of_ble_eq_true rfl) rfl rfl (by decide) inT10 fl_X10_90 tyX10 tyX10_ok nmX10 rfl (fun _ _ h => h) rfl rfl rfl dX10_init_220 ?_
  refine y_aload_n 0 rfl dX10_init_223 ?_
  refine y_new (K := 249) (K2 := 250) (cs2 := (249, 52176)) (ci := 4) (fs := [iV 0, iV 0, iV 0, .null]) rfl inT4 tyX4 tyX4_ok zk_X10_94 zi_4 zn_4 zf_4 ⟨Nat.le_of_ble_eq_true rfl, Nat.le_of_ble_eq_true rfl⟩ rfl rfl dX10_init_224 ?_
  refine y_dup rfl dX10_init_227 ?_
  refine y_call (cs2 := (250, 52179)) (As := []) zc_4 rfl zm_4 (zt_4_249 x _ rfl) rfl zl_X10_96 ⟨Nat.le_of_ble_eq_true rfl, Nat.le_of_ble_eq_true rfl⟩ ⟨Nat.le_of_ble_eq_true rfl, Nat.le_of_ble_eq_true rfl⟩ (Nat.le_of_ble_eq_true rfl) rfl dX10_init_228 ?_
  refine y_putF (k := 0) 14 [.ref (x.2.2.1 + 1), .ref (x.2.2.1 + 35), .ref (x.2.2.1 + 39), .ref (x.2.2.1 + 73), .ref (x.2.2.1 + 208), .ref (x.2.2.1 + 211), .ref (x.2.2.1 + 216), .ref (x.2.2.1 + 221), .ref (x.2.2.1 + 226), .ref (x.2.2.1 + 231), .ref (x.2.2.1 + 232), .ref (x.2.2.1 + 235), .ref (x.2.2.1 + 236), .ref (x.2.2.1 + 247), .ref (x.2.2.1 + 249), .null, .null, iV 0, iV 0] (by decide) rfl (Nat.le_of_ble_eq_true rfl) rfl rfl (by decide) inT10 fl_X10_97 tyX10 tyX10_ok nmX10 rfl (fun _ _ h => h) rfl rfl rfl dX10_init_231 ?_
  refine y_aload_n 0 rfl dX10_init_234 ?_
  refine y_new (K := 251) (K2 := 252) (cs2 := (251, 52183)) (ci := 4) (fs := [iV 0, iV 0, iV 0, .null]) rfl inT4 tyX4 tyX4_ok zk_X10_94 zi_4 zn_4 zf_4 ⟨Nat.le_of_ble_eq_true rfl, Nat.le_of_ble_eq_true rfl⟩ rfl rfl dX10_init_235 ?_
  refine y_dup rfl dX10_init_238 ?_
  refine y_call (cs2 := (252, 52186)) (As := []) zc_4 rfl zm_4 (zt_4_251 x _ rfl) rfl zl_X10_96 ⟨Nat.le_of_ble_eq_true rfl, Nat.le_of_ble_eq_true rfl⟩ ⟨Nat.le_of_ble_eq_true rfl, Nat.le_of_ble_eq_true rfl⟩ (Nat.le_of_ble_eq_true rfl) rfl dX10_init_239 ?_
  refine y_putF (k := 0) 15 [.ref (x.2.2.1 + 1), .ref (x.2.2.1 + 35), .ref (x.2.2.1 + 39), .ref (x.2.2.1 + 73), .ref (x.2.2.1 + 208), .ref (x.2.2.1 + 211), .ref (x.2.2.1 + 216), .ref (x.2.2.1 + 221), .ref (x.2.2.1 + 226), .ref (x.2.2.1 + 231), .ref (x.2.2.1 + 232), .ref (x.2.2.1 + 235), .ref (x.2.2.1 + 236), .ref (x.2.2.1 + 247), .ref (x.2.2.1 + 249), .ref (x.2.2.1 + 251), .null, iV 0, iV 0] (by decide) rfl (Nat.le_of_ble_eq_true rfl) rfl rfl (by decide) inT10 fl_X10_101 tyX10 tyX10_ok nmX10 rfl (fun _ _ h => h) rfl rfl rfl dX10_init_242 ?_
  refine y_aload_n 0 rfl dX10_init_245 ?_
  refine y_iconst dX10_init_246 ?_
  refine y_anew (K := 253) (K2 := 254) (cs2 := (253, 52189)) 3 zk_X10_94 (by decide) (by decide) (by decide) ⟨Nat.le_of_ble_eq_true rfl, Nat.le_of_ble_eq_true rfl⟩ rfl rfl dX10_init_247 ?_
  refine y_putF (k := 0) 16 [.ref (x.2.2.1 + 1), .ref (x.2.2.1 + 35), .ref (x.2.2.1 + 39), .ref (x.2.2.1 + 73), .ref (x.2.2.1 + 208), .ref (x.2.2.1 + 211), .ref (x.2.2.1 + 216), .ref (x.2.2.1 + 221), .ref (x.2.2.1 + 226), .ref (x.2.2.1 + 231), .ref (x.2.2.1 + 232), .ref (x.2.2.1 + 235), .ref (x.2.2.1 + 236), .ref (x.2.2.1 + 247), .ref (x.2.2.1 + 249), .ref (x.2.2.1 + 251), .ref (x.2.2.1 + 253), iV 0, iV 0] (by decide) rfl (Nat.le_of_ble_eq_true rfl) rfl rfl (by decide) inT10 fl_X10_104 tyX10 tyX10_ok nmX10 rfl (fun _ _ h => h) rfl rfl rfl dX10_init_250 ?_
  refine y_iconst dX10_init_253 ?_
  refine y_istore_n [(1, iV 0), (0, .ref (x.2.2.1 + 0))] dX10_init_254 (Nat.le_of_ble_eq_true rfl) rfl ?_
  refine y_iload_n 0 rfl dX10_init_255 ?_
  refine y_iconst dX10_init_256 ?_
  refine y_icmpge (tgt := 279) ⟨by decide, by decide⟩ ⟨by decide, by decide⟩ dX10_init_257 (by decide) (fun q => absurd q (by decide)) (fun _ => ?_)
  refine y_aload_n 1 rfl dX10_init_260 ?_
  refine y_get (k := 0) (v := .ref (x.2.2.1 + 253)) 16 (by decide) rfl rfl rfl (by decide) inT10 fl_X10_104 dX10_init_261 ?_
  refine y_iload_n 0 rfl dX10_init_264 ?_
  refine y_new (K := 254) (K2 := 255) (cs2 := (254, 52193)) (ci := 4) (fs := [iV 0, iV 0, iV 0, .null]) rfl inT4 tyX4 tyX4_ok zk_X10_94 zi_4 zn_4 zf_4 ⟨Nat.le_of_ble_eq_true rfl, Nat.le_of_ble_eq_true rfl⟩ rfl rfl dX10_init_265 ?_
  refine y_dup rfl dX10_init_268 ?_
  refine y_call (cs2 := (255, 52196)) (As := []) zc_4 rfl zm_4 (zt_4_254 x _ rfl) rfl zl_X10_96 ⟨Nat.le_of_ble_eq_true rfl, Nat.le_of_ble_eq_true rfl⟩ ⟨Nat.le_of_ble_eq_true rfl, Nat.le_of_ble_eq_true rfl⟩ (Nat.le_of_ble_eq_true rfl) rfl dX10_init_269 ?_
  refine y_aast (k := 253) (n := 3) (v := 254) _ (by decide) rfl (by decide) rfl (by decide) (by decide) ⟨by decide, by decide⟩ rfl dX10_init_272 ?_
  refine y_iinc 0 rfl [(1, iV 1), (0, .ref (x.2.2.1 + 0))] dX10_init_273 (by decide) rfl ?_
  refine y_goto (tgt := 255) dX10_init_276 (by decide) ?_
  refine y_iload_n 0 rfl dX10_init_255 ?_
  refine y_iconst dX10_init_256 ?_
  refine y_icmpge (tgt := 279) ⟨by decide, by decide⟩ ⟨by decide, by decide⟩ dX10_init_257 (by decide) (fun q => absurd q (by decide)) (fun _ => ?_)
  refine y_aload_n 1 rfl dX10_init_260 ?_
  refine y_get (k := 0) (v := .ref (x.2.2.1 + 253)) 16 (by decide) rfl rfl rfl (by decide) inT10 fl_X10_104 dX10_init_261 ?_
  refine y_iload_n 0 rfl dX10_init_264 ?_
  refine y_new (K := 256) (K2 := 257) (cs2 := (256, 52200)) (ci := 4) (fs := [iV 0, iV 0, iV 0, .null]) rfl inT4 tyX4 tyX4_ok zk_X10_94 zi_4 zn_4 zf_4 ⟨Nat.le_of_ble_eq_true rfl, Nat.le_of_ble_eq_true rfl⟩ rfl rfl dX10_init_265 ?_
  refine y_dup rfl dX10_init_268 ?_
  refine y_call (cs2 := (257, 52203)) (As := []) zc_4 rfl zm_4 (zt_4_256 x _ rfl) rfl zl_X10_96 ⟨Nat.le_of_ble_eq_true rfl, Nat.le_of_ble_eq_true rfl⟩ ⟨Nat.le_of_ble_eq_true rfl, Nat.le_of_ble_eq_true rfl⟩ (Nat.le_of_ble_eq_true rfl) rfl dX10_init_269 ?_
  refine y_aast (k := 253) (n := 3) (v := 256) _ (by decide) rfl (by decide) rfl (by decide) (by decide) ⟨by decide, by decide⟩ rfl dX10_init_272 ?_
  refine y_iinc 0 rfl [(1, iV 2), (0, .ref (x.2.2.1 + 0))] dX10_init_273 (by decide) rfl ?_
  refine y_goto (tgt := 255) dX10_init_276 (by decide) ?_
  refine y_iload_n 0 rfl dX10_init_255 ?_
  refine y_iconst dX10_init_256 ?_
  refine y_icmpge (tgt := 279) ⟨by decide, by decide⟩ ⟨by decide, by decide⟩ dX10_init_257 (by decide) (fun q => absurd q (by decide)) (fun _ => ?_)
  refine y_aload_n 1 rfl dX10_init_260 ?_
  refine y_get (k := 0) (v := .ref (x.2.2.1 + 253)) 16 (by decide) rfl rfl rfl (by decide) inT10 fl_X10_104 dX10_init_261 ?_
  refine y_iload_n 0 rfl dX10_init_264 ?_
  refine y_new (K := 258) (K2 := 259) (cs2 := (258, 52207)) (ci := 4) (fs := [iV 0, iV 0, iV 0, .null]) rfl inT4 tyX4 tyX4_ok zk_X10_94 zi_4 zn_4 zf_4 ⟨Nat.le_of_ble_eq_true rfl, Nat.le_of_ble_eq_true rfl⟩ rfl rfl dX10_init_265 ?_
  refine y_dup rfl dX10_init_268 ?_
  refine y_call (cs2 := (259, 52210)) (As := []) zc_4 rfl zm_4 (zt_4_258 x _ rfl) rfl zl_X10_96 ⟨Nat.le_of_ble_eq_true rfl, Nat.le_of_ble_eq_true rfl⟩ ⟨Nat.le_of_ble_eq_true rfl, Nat.le_of_ble_eq_true rfl⟩ (Nat.le_of_ble_eq_true rfl) rfl dX10_init_269 ?_
  refine y_aast (k := 253) (n := 3) (v := 258) _ (by decide) rfl (by decide) rfl (by decide) (by decide) ⟨by decide, by decide⟩ rfl dX10_init_272 ?_
  refine y_iinc 0 rfl [(1, iV 3), (0, .ref (x.2.2.1 + 0))] dX10_init_273 (by decide) rfl ?_
  refine y_goto (tgt := 255) dX10_init_276 (by decide) ?_
  refine y_iload_n 0 rfl dX10_init_255 ?_
  refine y_iconst dX10_init_256 ?_
  refine y_icmpge (tgt := 279) ⟨by decide, by decide⟩ ⟨by decide, by decide⟩ dX10_init_257 (by decide) (fun _ => ?_) (fun q => absurd (show (3 : Int) ≤ 3 by decide) q)
  exact y_vret rfl dX10_init_279
def ze_11_260 (x : xX) (E : Nat → va_E) : Nat → va_E := uE (uE (uE (uE (uE (uE (uE (uE (uE (uE (uE (uE (uE (uE (uE (uE (uE (uE (uE (uE (uE (uE (uE (uE (uE (uE (uE (uE (uE (uE (uE (uE (uE (uE (uE (uE (uE (uE (uE (E) 261 (.inl (x.2.1.1 100, 900, .inl (fun _ => Int32.ofInt 0)))) 260 (.inr (11, [iV 0, .ref (x.2.2.1 + 261), iV 0, iV 0, iV 0, iV 0, iV 0, iV 0, iV 0, iV 0, iV 0, iV 0, .null, iV 0, iV 0, .null, .null, .null, .null, iV 0, .null, .null, .null, .null, .null, .null, .null, .null, .null, iV 0, iV 0, iV 0, iV 0, iV 0, .null, .null, .null, .null]))) 260 (.inr (11, [iV 0, .ref (x.2.2.1 + 261), iV 0, iV 0, iV 0, iV 0, iV 0, iV 0, iV 0, iV 0, iV (-1), iV 0, .null, iV 0, iV 0, .null, .null, .null, .null, iV 0, .null, .null, .null, .null, .null, .null, .null, .null, .null, iV 0, iV 0, iV 0, iV 0, iV 0, .null, .null, .null, .null]))) 262 (.inl (x.2.1.1 100, 8, .inl (fun _ => Int32.ofInt 0)))) 260 (.inr (11, [iV 0, .ref (x.2.2.1 + 261), iV 0, iV 0, iV 0, iV 0, iV 0, iV 0, iV 0, iV 0, iV (-1), iV 0, .ref (x.2.2.1 + 262), iV 0, iV 0, .null, .null, .null, .null, iV 0, .null, .null, .null, .null, .null, .null, .null, .null, .null, iV 0, iV 0, iV 0, iV 0, iV 0, .null, .null, .null, .null]))) 263 (.inl (x.2.1.1 100, 322, .inl (fun _ => Int32.ofInt 0)))) 260 (.inr (11, [iV 0, .ref (x.2.2.1 + 261), iV 0, iV 0, iV 0, iV 0, iV 0, iV 0, iV 0, iV 0, iV (-1), iV 0, .ref (x.2.2.1 + 262), iV 0, iV 0, .ref (x.2.2.1 + 263), .null, .null, .null, iV 0, .null, .null, .null, .null, .null, .null, .null, .null, .null, iV 0, iV 0, iV 0, iV 0, iV 0, .null, .null, .null, .null]))) 264 (.inl (x.2.1.1 100, 322, .inl (fun _ => Int32.ofInt 0)))) 260 (.inr (11, [iV 0, .ref (x.2.2.1 + 261), iV 0, iV 0, iV 0, iV 0, iV 0, iV 0, iV 0, iV 0, iV (-1), iV 0, .ref (x.2.2.1 + 262), iV 0, iV 0, .ref (x.2.2.1 + 263), .ref (x.2.2.1 + 264), .null, .null, iV 0, .null, .null, .null, .null, .null, .null, .null, .null, .null, iV 0, iV 0, iV 0, iV 0, iV 0, .null, .null, .null, .null]))) 265 (.inl (x.2.1.1 100, 6, .inl (fun _ => Int32.ofInt 0)))) 260 (.inr (11, [iV 0, .ref (x.2.2.1 + 261), iV 0, iV 0, iV 0, iV 0, iV 0, iV 0, iV 0, iV 0, iV (-1), iV 0, .ref (x.2.2.1 + 262), iV 0, iV 0, .ref (x.2.2.1 + 263), .ref (x.2.2.1 + 264), .ref (x.2.2.1 + 265), .null, iV 0, .null, .null, .null, .null, .null, .null, .null, .null, .null, iV 0, iV 0, iV 0, iV 0, iV 0, .null, .null, .null, .null]))) 266 (.inl (x.2.1.1 100, 18, .inl (fun _ => Int32.ofInt 0)))) 260 (.inr (11, [iV 0, .ref (x.2.2.1 + 261), iV 0, iV 0, iV 0, iV 0, iV 0, iV 0, iV 0, iV 0, iV (-1), iV 0, .ref (x.2.2.1 + 262), iV 0, iV 0, .ref (x.2.2.1 + 263), .ref (x.2.2.1 + 264), .ref (x.2.2.1 + 265), .ref (x.2.2.1 + 266), iV 0, .null, .null, .null, .null, .null, .null, .null, .null, .null, iV 0, iV 0, iV 0, iV 0, iV 0, .null, .null, .null, .null]))) 267 (.inl (x.2.1.1 100, 600, .inl (fun _ => Int32.ofInt 0)))) 260 (.inr (11, [iV 0, .ref (x.2.2.1 + 261), iV 0, iV 0, iV 0, iV 0, iV 0, iV 0, iV 0, iV 0, iV (-1), iV 0, .ref (x.2.2.1 + 262), iV 0, iV 0, .ref (x.2.2.1 + 263), .ref (x.2.2.1 + 264), .ref (x.2.2.1 + 265), .ref (x.2.2.1 + 266), iV 0, .ref (x.2.2.1 + 267), .null, .null, .null, .null, .null, .null, .null, .null, iV 0, iV 0, iV 0, iV 0, iV 0, .null, .null, .null, .null]))) 268 (.inl (x.2.1.1 100, 24, .inl (fun _ => Int32.ofInt 0)))) 260 (.inr (11, [iV 0, .ref (x.2.2.1 + 261), iV 0, iV 0, iV 0, iV 0, iV 0, iV 0, iV 0, iV 0, iV (-1), iV 0, .ref (x.2.2.1 + 262), iV 0, iV 0, .ref (x.2.2.1 + 263), .ref (x.2.2.1 + 264), .ref (x.2.2.1 + 265), .ref (x.2.2.1 + 266), iV 0, .ref (x.2.2.1 + 267), .ref (x.2.2.1 + 268), .null, .null, .null, .null, .null, .null, .null, iV 0, iV 0, iV 0, iV 0, iV 0, .null, .null, .null, .null]))) 269 (.inl (x.2.1.1 100, 25, .inl (fun _ => Int32.ofInt 0)))) 260 (.inr (11, [iV 0, .ref (x.2.2.1 + 261), iV 0, iV 0, iV 0, iV 0, iV 0, iV 0, iV 0, iV 0, iV (-1), iV 0, .ref (x.2.2.1 + 262), iV 0, iV 0, .ref (x.2.2.1 + 263), .ref (x.2.2.1 + 264), .ref (x.2.2.1 + 265), .ref (x.2.2.1 + 266), iV 0, .ref (x.2.2.1 + 267), .ref (x.2.2.1 + 268), .ref (x.2.2.1 + 269), .null, .null, .null, .null, .null, .null, iV 0, iV 0, iV 0, iV 0, iV 0, .null, .null, .null, .null]))) 270 (.inl (x.2.1.1 100, 24, .inl (fun _ => Int32.ofInt 0)))) 260 (.inr (11, [iV 0, .ref (x.2.2.1 + 261), iV 0, iV 0, iV 0, iV 0, iV 0, iV 0, iV 0, iV 0, iV (-1), iV 0, .ref (x.2.2.1 + 262), iV 0, iV 0, .ref (x.2.2.1 + 263), .ref (x.2.2.1 + 264), .ref (x.2.2.1 + 265), .ref (x.2.2.1 + 266), iV 0, .ref (x.2.2.1 + 267), .ref (x.2.2.1 + 268), .ref (x.2.2.1 + 269), .ref (x.2.2.1 + 270), .null, .null, .null, .null, .null, iV 0, iV 0, iV 0, iV 0, iV 0, .null, .null, .null, .null]))) 271 (.inl (x.2.1.1 100, 24, .inl (fun _ => Int32.ofInt 0)))) 260 (.inr (11, [iV 0, .ref (x.2.2.1 + 261), iV 0, iV 0, iV 0, iV 0, iV 0, iV 0, iV 0, iV 0, iV (-1), iV 0, .ref (x.2.2.1 + 262), iV 0, iV 0, .ref (x.2.2.1 + 263), .ref (x.2.2.1 + 264), .ref (x.2.2.1 + 265), .ref (x.2.2.1 + 266), iV 0, .ref (x.2.2.1 + 267), .ref (x.2.2.1 + 268), .ref (x.2.2.1 + 269), .ref (x.2.2.1 + 270), .ref (x.2.2.1 + 271), .null, .null, .null, .null, iV 0, iV 0, iV 0, iV 0, iV 0, .null, .null, .null, .null]))) 272 (.inl (x.2.1.1 100, 26, .inl (fun _ => Int32.ofInt 0)))) 260 (.inr (11, [iV 0, .ref (x.2.2.1 + 261), iV 0, iV 0, iV 0, iV 0, iV 0, iV 0, iV 0, iV 0, iV (-1), iV 0, .ref (x.2.2.1 + 262), iV 0, iV 0, .ref (x.2.2.1 + 263), .ref (x.2.2.1 + 264), .ref (x.2.2.1 + 265), .ref (x.2.2.1 + 266), iV 0, .ref (x.2.2.1 + 267), .ref (x.2.2.1 + 268), .ref (x.2.2.1 + 269), .ref (x.2.2.1 + 270), .ref (x.2.2.1 + 271), .ref (x.2.2.1 + 272), .null, .null, .null, iV 0, iV 0, iV 0, iV 0, iV 0, .null, .null, .null, .null]))) 273 (.inl (x.2.1.1 100, 26, .inl (fun _ => Int32.ofInt 0)))) 260 (.inr (11, [iV 0, .ref (x.2.2.1 + 261), iV 0, iV 0, iV 0, iV 0, iV 0, iV 0, iV 0, iV 0, iV (-1), iV 0, .ref (x.2.2.1 + 262), iV 0, iV 0, .ref (x.2.2.1 + 263), .ref (x.2.2.1 + 264), .ref (x.2.2.1 + 265), .ref (x.2.2.1 + 266), iV 0, .ref (x.2.2.1 + 267), .ref (x.2.2.1 + 268), .ref (x.2.2.1 + 269), .ref (x.2.2.1 + 270), .ref (x.2.2.1 + 271), .ref (x.2.2.1 + 272), .ref (x.2.2.1 + 273), .null, .null, iV 0, iV 0, iV 0, iV 0, iV 0, .null, .null, .null, .null]))) 274 (.inl (x.2.1.1 100, 3, .inl (fun _ => Int32.ofInt 0)))) 260 (.inr (11, [iV 0, .ref (x.2.2.1 + 261), iV 0, iV 0, iV 0, iV 0, iV 0, iV 0, iV 0, iV 0, iV (-1), iV 0, .ref (x.2.2.1 + 262), iV 0, iV 0, .ref (x.2.2.1 + 263), .ref (x.2.2.1 + 264), .ref (x.2.2.1 + 265), .ref (x.2.2.1 + 266), iV 0, .ref (x.2.2.1 + 267), .ref (x.2.2.1 + 268), .ref (x.2.2.1 + 269), .ref (x.2.2.1 + 270), .ref (x.2.2.1 + 271), .ref (x.2.2.1 + 272), .ref (x.2.2.1 + 273), .ref (x.2.2.1 + 274), .null, iV 0, iV 0, iV 0, iV 0, iV 0, .null, .null, .null, .null]))) 275 (.inl (x.2.1.1 100, 3, .inl (fun _ => Int32.ofInt 0)))) 260 (.inr (11, [iV 0, .ref (x.2.2.1 + 261), iV 0, iV 0, iV 0, iV 0, iV 0, iV 0, iV 0, iV 0, iV (-1), iV 0, .ref (x.2.2.1 + 262), iV 0, iV 0, .ref (x.2.2.1 + 263), .ref (x.2.2.1 + 264), .ref (x.2.2.1 + 265), .ref (x.2.2.1 + 266), iV 0, .ref (x.2.2.1 + 267), .ref (x.2.2.1 + 268), .ref (x.2.2.1 + 269), .ref (x.2.2.1 + 270), .ref (x.2.2.1 + 271), .ref (x.2.2.1 + 272), .ref (x.2.2.1 + 273), .ref (x.2.2.1 + 274), .ref (x.2.2.1 + 275), iV 0, iV 0, iV 0, iV 0, iV 0, .null, .null, .null, .null]))) 276 (.inl (x.2.1.1 100, 140625, .inl (fun _ => Int32.ofInt 0)))) 260 (.inr (11, [iV 0, .ref (x.2.2.1 + 261), iV 0, iV 0, iV 0, iV 0, iV 0, iV 0, iV 0, iV 0, iV (-1), iV 0, .ref (x.2.2.1 + 262), iV 0, iV 0, .ref (x.2.2.1 + 263), .ref (x.2.2.1 + 264), .ref (x.2.2.1 + 265), .ref (x.2.2.1 + 266), iV 0, .ref (x.2.2.1 + 267), .ref (x.2.2.1 + 268), .ref (x.2.2.1 + 269), .ref (x.2.2.1 + 270), .ref (x.2.2.1 + 271), .ref (x.2.2.1 + 272), .ref (x.2.2.1 + 273), .ref (x.2.2.1 + 274), .ref (x.2.2.1 + 275), iV 0, iV 0, iV 0, iV 0, iV 0, .ref (x.2.2.1 + 276), .null, .null, .null]))) 277 (.inl (x.2.1.1 100, 15625, .inl (fun _ => Int32.ofInt 0)))) 260 (.inr (11, [iV 0, .ref (x.2.2.1 + 261), iV 0, iV 0, iV 0, iV 0, iV 0, iV 0, iV 0, iV 0, iV (-1), iV 0, .ref (x.2.2.1 + 262), iV 0, iV 0, .ref (x.2.2.1 + 263), .ref (x.2.2.1 + 264), .ref (x.2.2.1 + 265), .ref (x.2.2.1 + 266), iV 0, .ref (x.2.2.1 + 267), .ref (x.2.2.1 + 268), .ref (x.2.2.1 + 269), .ref (x.2.2.1 + 270), .ref (x.2.2.1 + 271), .ref (x.2.2.1 + 272), .ref (x.2.2.1 + 273), .ref (x.2.2.1 + 274), .ref (x.2.2.1 + 275), iV 0, iV 0, iV 0, iV 0, iV 0, .ref (x.2.2.1 + 276), .ref (x.2.2.1 + 277), .null, .null]))) 278 (.inl (x.2.1.1 100, 15625, .inl (fun _ => Int32.ofInt 0)))) 260 (.inr (11, [iV 0, .ref (x.2.2.1 + 261), iV 0, iV 0, iV 0, iV 0, iV 0, iV 0, iV 0, iV 0, iV (-1), iV 0, .ref (x.2.2.1 + 262), iV 0, iV 0, .ref (x.2.2.1 + 263), .ref (x.2.2.1 + 264), .ref (x.2.2.1 + 265), .ref (x.2.2.1 + 266), iV 0, .ref (x.2.2.1 + 267), .ref (x.2.2.1 + 268), .ref (x.2.2.1 + 269), .ref (x.2.2.1 + 270), .ref (x.2.2.1 + 271), .ref (x.2.2.1 + 272), .ref (x.2.2.1 + 273), .ref (x.2.2.1 + 274), .ref (x.2.2.1 + 275), iV 0, iV 0, iV 0, iV 0, iV 0, .ref (x.2.2.1 + 276), .ref (x.2.2.1 + 277), .ref (x.2.2.1 + 278), .null]))) 279 (.inl (x.2.1.1 102, 62500, .inr (.inl (fun _ => Int64.ofInt 0))))) 260 (.inr (11, [iV 0, .ref (x.2.2.1 + 261), iV 0, iV 0, iV 0, iV 0, iV 0, iV 0, iV 0, iV 0, iV (-1), iV 0, .ref (x.2.2.1 + 262), iV 0, iV 0, .ref (x.2.2.1 + 263), .ref (x.2.2.1 + 264), .ref (x.2.2.1 + 265), .ref (x.2.2.1 + 266), iV 0, .ref (x.2.2.1 + 267), .ref (x.2.2.1 + 268), .ref (x.2.2.1 + 269), .ref (x.2.2.1 + 270), .ref (x.2.2.1 + 271), .ref (x.2.2.1 + 272), .ref (x.2.2.1 + 273), .ref (x.2.2.1 + 274), .ref (x.2.2.1 + 275), iV 0, iV 0, iV 0, iV 0, iV 0, .ref (x.2.2.1 + 276), .ref (x.2.2.1 + 277), .ref (x.2.2.1 + 278), .ref (x.2.2.1 + 279)]))
set_option maxRecDepth 100000 in
set_option maxHeartbeats 8000000 in
theorem zt_11_260 (x : xX) (E : Nat → va_E) (hE : E 260 = .inr (11, [iV 0, .null, iV 0, iV 0, iV 0, iV 0, iV 0, iV 0, iV 0, iV 0, iV 0, iV 0, .null, iV 0, iV 0, .null, .null, .null, .null, iV 0, .null, .null, .null, .null, .null, .null, .null, .null, .null, iV 0, iV 0, iV 0, iV 0, iV 0, .null, .null, .null, .null])) : yMet x 1 yX11_init cX11_init 1 [.ref (x.2.2.1 + 260)] 19 236706 261 E 280 (ze_11_260 x E) := by
  refine yMet_of (by decide +kernel) (Nat.le_of_ble_eq_true rfl) yI (fun _ _ h => h) ?_
  show yGr x (yRm 1 19 236706, RX11, cX11_init, 1, none, yI) (0, 0) (yFin x (yQ x 280 (ze_11_260 x E)) 19 236706) (yR x 261 E) 0 [(0, .ref (x.2.2.1 + 260))] []
  refine y_aload_n 0 rfl dX11_init_0 ?_
  refine y_obj zl_X11_1 zo_ins zo_code ⟨Nat.le_of_ble_eq_true rfl, Nat.le_of_ble_eq_true rfl⟩ (Nat.le_of_ble_eq_true rfl) dX11_init_1 ?_
  refine y_aload_n 0 rfl dX11_init_4 ?_
  refine y_sipush dX11_init_5 (by decide) ?_
  refine y_newI (K := 261) (K2 := 262) (cs2 := (1, 900)) 900 za_int (by decide) (by decide) (by decide) ⟨Nat.le_of_ble_eq_true rfl, Nat.le_of_ble_eq_true rfl⟩ rfl rfl dX11_init_8 ?_
  refine y_putF (k := 260) 1 [iV 0, .ref (x.2.2.1 + 261), iV 0, iV 0, iV 0, iV 0, iV 0, iV 0, iV 0, iV 0, iV 0, iV 0, .null, iV 0, iV 0, .null, .null, .null, .null, iV 0, .null, .null, .null, .null, .null, .null, .null, .null, .null, iV 0, iV 0, iV 0, iV 0, iV 0, .null, .null, .null, .null] (by decide) hE (Nat.le_of_ble_eq_true rfl) rfl rfl (by decide) inT11 fl_X11_7 tyX11 tyX11_ok nmX11 rfl (fun _ _ h => h) rfl rfl rfl dX11_init_10 ?_
  refine y_aload_n 0 rfl dX11_init_13 ?_
  refine y_iconst dX11_init_14 ?_
  refine y_put (k := 260) 10 [iV 0, .ref (x.2.2.1 + 261), iV 0, iV 0, iV 0, iV 0, iV 0, iV 0, iV 0, iV 0, iV (-1), iV 0, .null, iV 0, iV 0, .null, .null, .null, .null, iV 0, .null, .null, .null, .null, .null, .null, .null, .null, .null, iV 0, iV 0, iV 0, iV 0, iV 0, .null, .null, .null, .null] (by decide) rfl (Nat.le_of_ble_eq_true rfl) rfl rfl (by decide) inT11 fl_X11_13 tyX11 tyX11_ok nmX11 rfl rfl rfl dX11_init_15 ?_
  refine y_aload_n 0 rfl dX11_init_18 ?_
  refine y_bipush dX11_init_19 (by decide) ?_
  refine y_newI (K := 262) (K2 := 263) (cs2 := (2, 908)) 8 za_int (by decide) (by decide) (by decide) ⟨Nat.le_of_ble_eq_true rfl, Nat.le_of_ble_eq_true rfl⟩ rfl rfl dX11_init_21 ?_
  refine y_putF (k := 260) 12 [iV 0, .ref (x.2.2.1 + 261), iV 0, iV 0, iV 0, iV 0, iV 0, iV 0, iV 0, iV 0, iV (-1), iV 0, .ref (x.2.2.1 + 262), iV 0, iV 0, .null, .null, .null, .null, iV 0, .null, .null, .null, .null, .null, .null, .null, .null, .null, iV 0, iV 0, iV 0, iV 0, iV 0, .null, .null, .null, .null] (by decide) rfl (Nat.le_of_ble_eq_true rfl) rfl rfl (by decide) inT11 fl_X11_17 tyX11 tyX11_ok nmX11 rfl (fun _ _ h => h) rfl rfl rfl dX11_init_23 ?_
  refine y_aload_n 0 rfl dX11_init_26 ?_
  refine y_sipush dX11_init_27 (by decide) ?_
  refine y_newI (K := 263) (K2 := 264) (cs2 := (3, 1230)) 322 za_int (by decide) (by decide) (by decide) ⟨Nat.le_of_ble_eq_true rfl, Nat.le_of_ble_eq_true rfl⟩ rfl rfl dX11_init_30 ?_
  refine y_putF (k := 260) 15 [iV 0, .ref (x.2.2.1 + 261), iV 0, iV 0, iV 0, iV 0, iV 0, iV 0, iV 0, iV 0, iV (-1), iV 0, .ref (x.2.2.1 + 262), iV 0, iV 0, .ref (x.2.2.1 + 263), .null, .null, .null, iV 0, .null, .null, .null, .null, .null, .null, .null, .null, .null, iV 0, iV 0, iV 0, iV 0, iV 0, .null, .null, .null, .null] (by decide) rfl (Nat.le_of_ble_eq_true rfl) rfl rfl (by decide) inT11 fl_X11_20 tyX11 tyX11_ok nmX11 rfl (fun _ _ h => h) rfl rfl rfl dX11_init_32 ?_
  refine y_aload_n 0 rfl dX11_init_35 ?_
  refine y_sipush dX11_init_36 (by decide) ?_
  refine y_newI (K := 264) (K2 := 265) (cs2 := (4, 1552)) 322 za_int (by decide) (by decide) (by decide) ⟨Nat.le_of_ble_eq_true rfl, Nat.le_of_ble_eq_true rfl⟩ rfl rfl dX11_init_39 ?_
  refine y_putF (k := 260) 16 [iV 0, .ref (x.2.2.1 + 261), iV 0, iV 0, iV 0, iV 0, iV 0, iV 0, iV 0, iV 0, iV (-1), iV 0, .ref (x.2.2.1 + 262), iV 0, iV 0, .ref (x.2.2.1 + 263), .ref (x.2.2.1 + 264), .null, .null, iV 0, .null, .null, .null, .null, .null, .null, .null, .null, .null, iV 0, iV 0, iV 0, iV 0, iV 0, .null, .null, .null, .null] (by decide) rfl (Nat.le_of_ble_eq_true rfl) rfl rfl (by decide) inT11 fl_X11_23 tyX11 tyX11_ok nmX11 rfl (fun _ _ h => h) rfl rfl rfl dX11_init_41 ?_
  refine y_aload_n 0 rfl dX11_init_44 ?_
  refine y_bipush dX11_init_45 (by decide) ?_
  refine y_newI (K := 265) (K2 := 266) (cs2 := (5, 1558)) 6 za_int (by decide) (by decide) (by decide) ⟨Nat.le_of_ble_eq_true rfl, Nat.le_of_ble_eq_true rfl⟩ rfl rfl dX11_init_47 ?_
  refine y_putF (k := 260) 17 [iV 0, .ref (x.2.2.1 + 261), iV 0, iV 0, iV 0, iV 0, iV 0, iV 0, iV 0, iV 0, iV (-1), iV 0, .ref (x.2.2.1 + 262), iV 0, iV 0, .ref (x.2.2.1 + 263), .ref (x.2.2.1 + 264), .ref (x.2.2.1 + 265), .null, iV 0, .null, .null, .null, .null, .null, .null, .null, .null, .null, iV 0, iV 0, iV 0, iV 0, iV 0, .null, .null, .null, .null] (by decide) rfl (Nat.le_of_ble_eq_true rfl) rfl rfl (by decide) inT11 fl_X11_26 tyX11 tyX11_ok nmX11 rfl (fun _ _ h => h) rfl rfl rfl dX11_init_49 ?_
  refine y_aload_n 0 rfl dX11_init_52 ?_
  refine y_bipush dX11_init_53 (by decide) ?_
  refine y_newI (K := 266) (K2 := 267) (cs2 := (6, 1576)) 18 za_int (by decide) (by decide) (by decide) ⟨Nat.le_of_ble_eq_true rfl, Nat.le_of_ble_eq_true rfl⟩ rfl rfl dX11_init_55 ?_
  refine y_putF (k := 260) 18 [iV 0, .ref (x.2.2.1 + 261), iV 0, iV 0, iV 0, iV 0, iV 0, iV 0, iV 0, iV 0, iV (-1), iV 0, .ref (x.2.2.1 + 262), iV 0, iV 0, .ref (x.2.2.1 + 263), .ref (x.2.2.1 + 264), .ref (x.2.2.1 + 265), .ref (x.2.2.1 + 266), iV 0, .null, .null, .null, .null, .null, .null, .null, .null, .null, iV 0, iV 0, iV 0, iV 0, iV 0, .null, .null, .null, .null] (by decide) rfl (Nat.le_of_ble_eq_true rfl) rfl rfl (by decide) inT11 fl_X11_29 tyX11 tyX11_ok nmX11 rfl (fun _ _ h => h) rfl rfl rfl dX11_init_57 ?_
  refine y_aload_n 0 rfl dX11_init_60 ?_
  refine y_sipush dX11_init_61 (by decide) ?_
  refine y_newI (K := 267) (K2 := 268) (cs2 := (7, 2176)) 600 za_int (by decide) (by decide) (by decide) ⟨Nat.le_of_ble_eq_true rfl, Nat.le_of_ble_eq_true rfl⟩ rfl rfl dX11_init_64 ?_
  refine y_putF (k := 260) 20 [iV 0, .ref (x.2.2.1 + 261), iV 0, iV 0, iV 0, iV 0, iV 0, iV 0, iV 0, iV 0, iV (-1), iV 0, .ref (x.2.2.1 + 262), iV 0, iV 0, .ref (x.2.2.1 + 263), .ref (x.2.2.1 + 264), .ref (x.2.2.1 + 265), .ref (x.2.2.1 + 266), iV 0, .ref (x.2.2.1 + 267), .null, .null, .null, .null, .null, .null, .null, .null, iV 0, iV 0, iV 0, iV 0, iV 0, .null, .null, .null, .null] (by decide) rfl (Nat.le_of_ble_eq_true rfl) rfl rfl (by decide) inT11 fl_X11_32 tyX11 tyX11_ok nmX11 rfl (fun _ _ h => h) rfl rfl rfl dX11_init_66 ?_
  refine y_aload_n 0 rfl dX11_init_69 ?_
  refine y_bipush dX11_init_70 (by decide) ?_
  refine y_newI (K := 268) (K2 := 269) (cs2 := (8, 2200)) 24 za_int (by decide) (by decide) (by decide) ⟨Nat.le_of_ble_eq_true rfl, Nat.le_of_ble_eq_true rfl⟩ rfl rfl dX11_init_72 ?_
  refine y_putF (k := 260) 21 [iV 0, .ref (x.2.2.1 + 261), iV 0, iV 0, iV 0, iV 0, iV 0, iV 0, iV 0, iV 0, iV (-1), iV 0, .ref (x.2.2.1 + 262), iV 0, iV 0, .ref (x.2.2.1 + 263), .ref (x.2.2.1 + 264), .ref (x.2.2.1 + 265), .ref (x.2.2.1 + 266), iV 0, .ref (x.2.2.1 + 267), .ref (x.2.2.1 + 268), .null, .null, .null, .null, .null, .null, .null, iV 0, iV 0, iV 0, iV 0, iV 0, .null, .null, .null, .null] (by decide) rfl (Nat.le_of_ble_eq_true rfl) rfl rfl (by decide) inT11 fl_X11_35 tyX11 tyX11_ok nmX11 rfl (fun _ _ h => h) rfl rfl rfl dX11_init_74 ?_
  refine y_aload_n 0 rfl dX11_init_77 ?_
  refine y_bipush dX11_init_78 (by decide) ?_
  refine y_newI (K := 269) (K2 := 270) (cs2 := (9, 2225)) 25 za_int (by decide) (by decide) (by decide) ⟨Nat.le_of_ble_eq_true rfl, Nat.le_of_ble_eq_true rfl⟩ rfl rfl dX11_init_80 ?_
  refine y_putF (k := 260) 22 [iV 0, .ref (x.2.2.1 + 261), iV 0, iV 0, iV 0, iV 0, iV 0, iV 0, iV 0, iV 0, iV (-1), iV 0, .ref (x.2.2.1 + 262), iV 0, iV 0, .ref (x.2.2.1 + 263), .ref (x.2.2.1 + 264), .ref (x.2.2.1 + 265), .ref (x.2.2.1 + 266), iV 0, .ref (x.2.2.1 + 267), .ref (x.2.2.1 + 268), .ref (x.2.2.1 + 269), .null, .null, .null, .null, .null, .null, iV 0, iV 0, iV 0, iV 0, iV 0, .null, .null, .null, .null] (by decide) rfl (Nat.le_of_ble_eq_true rfl) rfl rfl (by decide) inT11 fl_X11_38 tyX11 tyX11_ok nmX11 rfl (fun _ _ h => h) rfl rfl rfl dX11_init_82 ?_
  refine y_aload_n 0 rfl dX11_init_85 ?_
  refine y_bipush dX11_init_86 (by decide) ?_
  refine y_newI (K := 270) (K2 := 271) (cs2 := (10, 2249)) 24 za_int (by decide) (by decide) (by decide) ⟨Nat.le_of_ble_eq_true rfl, Nat.le_of_ble_eq_true rfl⟩ rfl rfl dX11_init_88 ?_
  refine y_putF (k := 260) 23 [iV 0, .ref (x.2.2.1 + 261), iV 0, iV 0, iV 0, iV 0, iV 0, iV 0, iV 0, iV 0, iV (-1), iV 0, .ref (x.2.2.1 + 262), iV 0, iV 0, .ref (x.2.2.1 + 263), .ref (x.2.2.1 + 264), .ref (x.2.2.1 + 265), .ref (x.2.2.1 + 266), iV 0, .ref (x.2.2.1 + 267), .ref (x.2.2.1 + 268), .ref (x.2.2.1 + 269), .ref (x.2.2.1 + 270), .null, .null, .null, .null, .null, iV 0, iV 0, iV 0, iV 0, iV 0, .null, .null, .null, .null] (by decide) rfl (Nat.le_of_ble_eq_true rfl) rfl rfl (by decide) inT11 fl_X11_41 tyX11 tyX11_ok nmX11 rfl (fun _ _ h => h) rfl rfl rfl dX11_init_90 ?_
  refine y_aload_n 0 rfl dX11_init_93 ?_
  refine y_bipush dX11_init_94 (by decide) ?_
  refine y_newI (K := 271) (K2 := 272) (cs2 := (11, 2273)) 24 za_int (by decide) (by decide) (by decide) ⟨Nat.le_of_ble_eq_true rfl, Nat.le_of_ble_eq_true rfl⟩ rfl rfl dX11_init_96 ?_
  refine y_putF (k := 260) 24 [iV 0, .ref (x.2.2.1 + 261), iV 0, iV 0, iV 0, iV 0, iV 0, iV 0, iV 0, iV 0, iV (-1), iV 0, .ref (x.2.2.1 + 262), iV 0, iV 0, .ref (x.2.2.1 + 263), .ref (x.2.2.1 + 264), .ref (x.2.2.1 + 265), .ref (x.2.2.1 + 266), iV 0, .ref (x.2.2.1 + 267), .ref (x.2.2.1 + 268), .ref (x.2.2.1 + 269), .ref (x.2.2.1 + 270), .ref (x.2.2.1 + 271), .null, .null, .null, .null, iV 0, iV 0, iV 0, iV 0, iV 0, .null, .null, .null, .null] (by decide) rfl (Nat.le_of_ble_eq_true rfl) rfl rfl (by decide) inT11 fl_X11_44 tyX11 tyX11_ok nmX11 rfl (fun _ _ h => h) rfl rfl rfl dX11_init_98 ?_
  refine y_aload_n 0 rfl dX11_init_101 ?_
  refine y_bipush dX11_init_102 (by decide) ?_
  refine y_newI (K := 272) (K2 := 273) (cs2 := (12, 2299)) 26 za_int (by decide) (by decide) (by decide) ⟨Nat.le_of_ble_eq_true rfl, Nat.le_of_ble_eq_true rfl⟩ rfl rfl dX11_init_104 ?_
  refine y_putF (k := 260) 25 [iV 0, .ref (x.2.2.1 + 261), iV 0, iV 0, iV 0, iV 0, iV 0, iV 0, iV 0, iV 0, iV (-1), iV 0, .ref (x.2.2.1 + 262), iV 0, iV 0, .ref (x.2.2.1 + 263), .ref (x.2.2.1 + 264), .ref (x.2.2.1 + 265), .ref (x.2.2.1 + 266), iV 0, .ref (x.2.2.1 + 267), .ref (x.2.2.1 + 268), .ref (x.2.2.1 + 269), .ref (x.2.2.1 + 270), .ref (x.2.2.1 + 271), .ref (x.2.2.1 + 272), .null, .null, .null, iV 0, iV 0, iV 0, iV 0, iV 0, .null, .null, .null, .null] (by decide) rfl (Nat.le_of_ble_eq_true rfl) rfl rfl (by decide) inT11 fl_X11_47 tyX11 tyX11_ok nmX11 rfl (fun _ _ h => h) rfl rfl rfl dX11_init_106 ?_
  refine y_aload_n 0 rfl dX11_init_109 ?_
  refine y_bipush dX11_init_110 (by decide) ?_
  refine y_newI (K := 273) (K2 := 274) (cs2 := (13, 2325)) 26 za_int (by decide) (by decide) (by decide) ⟨Nat.le_of_ble_eq_true rfl, Nat.le_of_ble_eq_true rfl⟩ rfl rfl dX11_init_112 ?_
  refine y_putF (k := 260) 26 [iV 0, .ref (x.2.2.1 + 261), iV 0, iV 0, iV 0, iV 0, iV 0, iV 0, iV 0, iV 0, iV (-1), iV 0, .ref (x.2.2.1 + 262), iV 0, iV 0, .ref (x.2.2.1 + 263), .ref (x.2.2.1 + 264), .ref (x.2.2.1 + 265), .ref (x.2.2.1 + 266), iV 0, .ref (x.2.2.1 + 267), .ref (x.2.2.1 + 268), .ref (x.2.2.1 + 269), .ref (x.2.2.1 + 270), .ref (x.2.2.1 + 271), .ref (x.2.2.1 + 272), .ref (x.2.2.1 + 273), .null, .null, iV 0, iV 0, iV 0, iV 0, iV 0, .null, .null, .null, .null] (by decide) rfl (Nat.le_of_ble_eq_true rfl) rfl rfl (by decide) inT11 fl_X11_50 tyX11 tyX11_ok nmX11 rfl (fun _ _ h => h) rfl rfl rfl dX11_init_114 ?_
  refine y_aload_n 0 rfl dX11_init_117 ?_
  refine y_iconst dX11_init_118 ?_
  refine y_newI (K := 274) (K2 := 275) (cs2 := (14, 2328)) 3 za_int (by decide) (by decide) (by decide) ⟨Nat.le_of_ble_eq_true rfl, Nat.le_of_ble_eq_true rfl⟩ rfl rfl dX11_init_119 ?_
  refine y_putF (k := 260) 27 [iV 0, .ref (x.2.2.1 + 261), iV 0, iV 0, iV 0, iV 0, iV 0, iV 0, iV 0, iV 0, iV (-1), iV 0, .ref (x.2.2.1 + 262), iV 0, iV 0, .ref (x.2.2.1 + 263), .ref (x.2.2.1 + 264), .ref (x.2.2.1 + 265), .ref (x.2.2.1 + 266), iV 0, .ref (x.2.2.1 + 267), .ref (x.2.2.1 + 268), .ref (x.2.2.1 + 269), .ref (x.2.2.1 + 270), .ref (x.2.2.1 + 271), .ref (x.2.2.1 + 272), .ref (x.2.2.1 + 273), .ref (x.2.2.1 + 274), .null, iV 0, iV 0, iV 0, iV 0, iV 0, .null, .null, .null, .null] (by decide) rfl (Nat.le_of_ble_eq_true rfl) rfl rfl (by decide) inT11 fl_X11_53 tyX11 tyX11_ok nmX11 rfl (fun _ _ h => h) rfl rfl rfl dX11_init_121 ?_
  refine y_aload_n 0 rfl dX11_init_124 ?_
  refine y_iconst dX11_init_125 ?_
  refine y_newI (K := 275) (K2 := 276) (cs2 := (15, 2331)) 3 za_int (by decide) (by decide) (by decide) ⟨Nat.le_of_ble_eq_true rfl, Nat.le_of_ble_eq_true rfl⟩ rfl rfl dX11_init_126 ?_
  refine y_putF (k := 260) 28 [iV 0, .ref (x.2.2.1 + 261), iV 0, iV 0, iV 0, iV 0, iV 0, iV 0, iV 0, iV 0, iV (-1), iV 0, .ref (x.2.2.1 + 262), iV 0, iV 0, .ref (x.2.2.1 + 263), .ref (x.2.2.1 + 264), .ref (x.2.2.1 + 265), .ref (x.2.2.1 + 266), iV 0, .ref (x.2.2.1 + 267), .ref (x.2.2.1 + 268), .ref (x.2.2.1 + 269), .ref (x.2.2.1 + 270), .ref (x.2.2.1 + 271), .ref (x.2.2.1 + 272), .ref (x.2.2.1 + 273), .ref (x.2.2.1 + 274), .ref (x.2.2.1 + 275), iV 0, iV 0, iV 0, iV 0, iV 0, .null, .null, .null, .null] (by decide) rfl (Nat.le_of_ble_eq_true rfl) rfl rfl (by decide) inT11 fl_X11_56 tyX11 tyX11_ok nmX11 rfl (fun _ _ h => h) rfl rfl rfl dX11_init_128 ?_
  refine y_aload_n 0 rfl dX11_init_131 ?_
  refine y_ldc cn_X11_59 dX11_init_132 ?_
  refine y_newI (K := 276) (K2 := 277) (cs2 := (16, 142956)) 140625 za_int (by decide) (by decide) (by decide) ⟨Nat.le_of_ble_eq_true rfl, Nat.le_of_ble_eq_true rfl⟩ rfl rfl dX11_init_134 ?_
  refine y_putF (k := 260) 34 [iV 0, .ref (x.2.2.1 + 261), iV 0, iV 0, iV 0, iV 0, iV 0, iV 0, iV 0, iV 0, iV (-1), iV 0, .ref (x.2.2.1 + 262), iV 0, iV 0, .ref (x.2.2.1 + 263), .ref (x.2.2.1 + 264), .ref (x.2.2.1 + 265), .ref (x.2.2.1 + 266), iV 0, .ref (x.2.2.1 + 267), .ref (x.2.2.1 + 268), .ref (x.2.2.1 + 269), .ref (x.2.2.1 + 270), .ref (x.2.2.1 + 271), .ref (x.2.2.1 + 272), .ref (x.2.2.1 + 273), .ref (x.2.2.1 + 274), .ref (x.2.2.1 + 275), iV 0, iV 0, iV 0, iV 0, iV 0, .ref (x.2.2.1 + 276), .null, .null, .null] (by decide) rfl (Nat.le_of_ble_eq_true rfl) rfl rfl (by decide) inT11 fl_X11_60 tyX11 tyX11_ok nmX11 rfl (fun _ _ h => h) rfl rfl rfl dX11_init_136 ?_
  refine y_aload_n 0 rfl dX11_init_139 ?_
  refine y_sipush dX11_init_140 (by decide) ?_
  refine y_newI (K := 277) (K2 := 278) (cs2 := (17, 158581)) 15625 za_int (by decide) (by decide) (by decide) ⟨Nat.le_of_ble_eq_true rfl, Nat.le_of_ble_eq_true rfl⟩ rfl rfl dX11_init_143 ?_
  refine y_putF (k := 260) 35 [iV 0, .ref (x.2.2.1 + 261), iV 0, iV 0, iV 0, iV 0, iV 0, iV 0, iV 0, iV 0, iV (-1), iV 0, .ref (x.2.2.1 + 262), iV 0, iV 0, .ref (x.2.2.1 + 263), .ref (x.2.2.1 + 264), .ref (x.2.2.1 + 265), .ref (x.2.2.1 + 266), iV 0, .ref (x.2.2.1 + 267), .ref (x.2.2.1 + 268), .ref (x.2.2.1 + 269), .ref (x.2.2.1 + 270), .ref (x.2.2.1 + 271), .ref (x.2.2.1 + 272), .ref (x.2.2.1 + 273), .ref (x.2.2.1 + 274), .ref (x.2.2.1 + 275), iV 0, iV 0, iV 0, iV 0, iV 0, .ref (x.2.2.1 + 276), .ref (x.2.2.1 + 277), .null, .null] (by decide) rfl (Nat.le_of_ble_eq_true rfl) rfl rfl (by decide) inT11 fl_X11_63 tyX11 tyX11_ok nmX11 rfl (fun _ _ h => h) rfl rfl rfl dX11_init_145 ?_
  refine y_aload_n 0 rfl dX11_init_148 ?_
  refine y_sipush dX11_init_149 (by decide) ?_
  refine y_newI (K := 278) (K2 := 279) (cs2 := (18, 174206)) 15625 za_int (by decide) (by decide) (by decide) ⟨Nat.le_of_ble_eq_true rfl, Nat.le_of_ble_eq_true rfl⟩ rfl rfl dX11_init_152 ?_
  refine y_putF (k := 260) 36 [iV 0, .ref (x.2.2.1 + 261), iV 0, iV 0, iV 0, iV 0, iV 0, iV 0, iV 0, iV 0, iV (-1), iV 0, .ref (x.2.2.1 + 262), iV 0, iV 0, .ref (x.2.2.1 + 263), .ref (x.2.2.1 + 264), .ref (x.2.2.1 + 265), .ref (x.2.2.1 + 266), iV 0, .ref (x.2.2.1 + 267), .ref (x.2.2.1 + 268), .ref (x.2.2.1 + 269), .ref (x.2.2.1 + 270), .ref (x.2.2.1 + 271), .ref (x.2.2.1 + 272), .ref (x.2.2.1 + 273), .ref (x.2.2.1 + 274), .ref (x.2.2.1 + 275), iV 0, iV 0, iV 0, iV 0, iV 0, .ref (x.2.2.1 + 276), .ref (x.2.2.1 + 277), .ref (x.2.2.1 + 278), .null] (by decide) rfl (Nat.le_of_ble_eq_true rfl) rfl rfl (by decide) inT11 fl_X11_66 tyX11 tyX11_ok nmX11 rfl (fun _ _ h => h) rfl rfl rfl dX11_init_154 ?_
  refine y_aload_n 0 rfl dX11_init_157 ?_
  refine y_ldc cn_X11_69 dX11_init_158 ?_
  refine y_newJ (K := 279) (K2 := 280) (cs2 := (19, 236706)) 62500 za_long (by decide) (by decide) (by decide) ⟨Nat.le_of_ble_eq_true rfl, Nat.le_of_ble_eq_true rfl⟩ rfl rfl dX11_init_160 ?_
  refine y_putF (k := 260) 37 [iV 0, .ref (x.2.2.1 + 261), iV 0, iV 0, iV 0, iV 0, iV 0, iV 0, iV 0, iV 0, iV (-1), iV 0, .ref (x.2.2.1 + 262), iV 0, iV 0, .ref (x.2.2.1 + 263), .ref (x.2.2.1 + 264), .ref (x.2.2.1 + 265), .ref (x.2.2.1 + 266), iV 0, .ref (x.2.2.1 + 267), .ref (x.2.2.1 + 268), .ref (x.2.2.1 + 269), .ref (x.2.2.1 + 270), .ref (x.2.2.1 + 271), .ref (x.2.2.1 + 272), .ref (x.2.2.1 + 273), .ref (x.2.2.1 + 274), .ref (x.2.2.1 + 275), iV 0, iV 0, iV 0, iV 0, iV 0, .ref (x.2.2.1 + 276), .ref (x.2.2.1 + 277), .ref (x.2.2.1 + 278), .ref (x.2.2.1 + 279)] (by decide) rfl (Nat.le_of_ble_eq_true rfl) rfl rfl (by decide) inT11 fl_X11_70 tyX11 tyX11_ok nmX11 rfl (fun _ _ h => h) rfl rfl rfl dX11_init_162 ?_
  exact y_vret rfl dX11_init_165
