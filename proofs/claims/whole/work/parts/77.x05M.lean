set_option maxRecDepth 100000 in
set_option maxHeartbeats 4000000 in
theorem xX11_common (x : xX) (p1 : Int) (p2 : Int) (μ : xM) (Q : Int → xM → Prop) (hp1 : xIl p1) (hp2 : xIl p2) (h : tX11_common p1 p2 μ Q) : xMet x 1 yX11_common cX11_common 10 (some .long) [jV p1, jV p2] μ (xQl x Q) := by
  refine xMet_of (by decide +kernel) (Nat.le_of_ble_eq_true rfl) ?_
  show xW x (xRm 1, RX11, cX11_common, 10, (some .long), fun _ _ => True) (xQl x Q) 0 [(0, jV p1), (2, jV p2)] [] μ
  refine x_ran (fun n0 => ?_)
  have h := h n0 hp1 hp2
  refine x_lload_n 0 rfl dX11_common_0 ?_
  refine x_lstore [(4, jV p1), (0, jV p1), (2, jV p2)] dX11_common_1 (show 4 + 1 < 10 by decide) rfl ?_
  refine x_lload_n 2 rfl dX11_common_3 ?_
  refine x_lstore [(6, jV p2), (4, jV p1), (0, jV p1), (2, jV p2)] dX11_common_4 (show 6 + 1 < 10 by decide) rfl ?_
  refine x_sub [1, 0] rfl ?_
  refine x_loop2 (fun l4_1 l6_2 => [(4, jV l4_1), (6, jV l6_2)]) h (fun J6 l4_1 l6_2 μ3 hJ6 h n4 => ?_)
  refine x_lload 1 rfl dX11_common_6 ?_
  refine x_lconst (v := 0) dX11_common_8 (by decide) ?_
  obtain ⟨c5, h⟩ := h
  refine x_lcmp c5 ⟨by decide, by decide⟩ dX11_common_9 ?_
  refine x_ifeq (tgt := 31) (xIcmp _ _)  dX11_common_10 (by decide) (fun k6 => ?_) (fun k6 => ?_)
  · have h := h.1 k6
    refine x_lload 0 rfl dX11_common_31 ?_
    obtain ⟨c7, h⟩ := h
    exact x_lret h c7 rfl dX11_common_33
  · have h := h.2 k6
    refine x_lload 0 rfl dX11_common_13 ?_
    refine x_lload 1 rfl dX11_common_15 ?_
    obtain ⟨c8, h⟩ := h
    obtain ⟨c9, h⟩ := h
    refine x_lrem c8 c5 c9 dX11_common_17 ?_
    refine x_lstore [(8, jV (l4_1.tmod l6_2)), (4, jV l4_1), (6, jV l6_2)] dX11_common_18 (show 8 + 1 < 10 by decide) rfl ?_
    refine x_lload 2 rfl dX11_common_20 ?_
    refine x_lstore [(4, jV l6_2), (8, jV (l4_1.tmod l6_2)), (6, jV l6_2)] dX11_common_22 (show 4 + 1 < 10 by decide) rfl ?_
    refine x_lload 1 rfl dX11_common_24 ?_
    refine x_lstore [(6, jV (l4_1.tmod l6_2)), (4, jV l6_2), (8, jV (l4_1.tmod l6_2))] dX11_common_26 (show 6 + 1 < 10 by decide) rfl ?_
    refine x_goto (tgt := 6) dX11_common_28 (by decide) ?_
    exact x_sub [1, 0] rfl (hJ6 _ _ _ h)
set_option maxRecDepth 100000 in
set_option maxHeartbeats 4000000 in
theorem xX11_hope (x : xX) (p1 : Int) (p2 : Int) (μ : xM) (Q : Int → xM → Prop) (hp1 : xIn p1) (hp2 : p2 = 0 ∨ p2 = 1) (h : tX11_hope p1 p2 μ Q) : xMet x 21 yX11_hope cX11_hope 7 (some .long) [.ref (x.2.2.1 + 260), iV p1, iV p2] μ (xQl x Q) := by
  refine xMet_of (by decide +kernel) (Nat.le_of_ble_eq_true rfl) ?_
  show xW x (xRm 21, RX11, cX11_hope, 7, (some .long), fun _ _ => True) (xQl x Q) 0 [(0, .ref (x.2.2.1 + 260)), (1, iV p1), (2, iV p2)] [] μ
  refine x_ran (fun n0 => ?_)
  have h := h n0 hp1 hp2
  refine x_aload_n 0 rfl dX11_hope_0 ?_
  refine x_callVv (As := []) (rest := []) cal_X11_good ins_X11_good sel_X11_good ly260 (by decide) rfl (xX11_good x  _ _  h) rfl ml_X11_155 (xRoom (Nat.le_of_ble_eq_true rfl)) (Nat.le_of_ble_eq_true rfl) dX11_hope_1 (fun μ1 n2 h => ?_)
  have h := h n2
  refine x_aload_n 0 rfl dX11_hope_4 ?_
  refine x_getI (j := 14) ly260 (by decide) rfl rfl (by decide) inT11 fl_X11_164 dX11_hope_5 (fun r3 => ?_)
  refine x_ifne (tgt := 18) r3  dX11_hope_8 (by decide) (fun k4 => ?_) (fun k4 => ?_)
  · have h := h.1 k4
    refine x_iload_n 1 rfl dX11_hope_18 ?_
    refine x_iconst dX11_hope_19 ?_
    refine x_iconst dX11_hope_20 ?_
    refine x_callSz (As := [iV p1, iV 1, iV 4]) (rest := []) cal_X11_within sta_X11_within (xX11_within x p1 1 4 _ _ hp1 ⟨by decide, by decide⟩ ⟨by decide, by decide⟩ h) rfl ml_X11_143 (xRoom (Nat.le_of_ble_eq_true rfl)) (Nat.le_of_ble_eq_true rfl) dX11_hope_21 (fun r7 μ5 i8 n6 h => ?_)
    have h := h i8 n6
    refine x_ifne (tgt := 34) (xIz i8)  dX11_hope_24 (by decide) (fun k9 => ?_) (fun k9 => ?_)
    · have h := h.1 (xz1 i8 k9)
      refine x_aload_n 0 rfl dX11_hope_34 ?_
      refine x_getR (j := 15) (r := 263) ly260 (by decide) rfl rfl (by decide) inT11 fl_X11_20 dX11_hope_35 ?_
      refine x_iconst dX11_hope_38 ?_
      refine x_iald ly263 (by decide) (by decide) ⟨by decide, by decide⟩ (by decide) dX11_hope_39 (fun r10 => ?_)
      refine x_ifne (tgt := 51) r10  dX11_hope_40 (by decide) (fun k11 => ?_) (fun k11 => ?_)
      · have h := h.1 k11
        refine x_iconst dX11_hope_51 ?_
        refine x_istore_n [(3, iV 0), (0, .ref (x.2.2.1 + 260)), (1, iV p1), (2, iV p2)] dX11_hope_52 (show 3 < 7 by decide) rfl ?_
        refine x_sub [1, 2, 3, 0] rfl ?_
        refine x_loop1 (fun l3_12 => [(0, .ref (x.2.2.1 + 260)), (1, iV p1), (2, iV p2), (3, iV l3_12)]) h (fun J53 l3_12 μ13 hJ53 h n14 => ?_)
        refine x_iload_n 3 rfl dX11_hope_53 ?_
        refine x_ldc (n := 62500) cn_X11_69 dX11_hope_54 ?_
        obtain ⟨c15, h⟩ := h
        refine x_icmpge (tgt := 74) c15 ⟨by decide, by decide⟩ dX11_hope_56 (by decide) (fun k16 => ?_) (fun k16 => ?_)
        · have h := h.1 k16
          refine x_aload_n 0 rfl dX11_hope_74 ?_
          refine x_aload_n 0 rfl dX11_hope_75 ?_
          refine x_callVi (As := []) (rest := [.ref (x.2.2.1 + 260)]) cal_X11_code ins_X11_code sel_X11_code ly260 (by decide) rfl (xX11_code x  _ _  h) rfl ml_X11_331 (xRoom (Nat.le_of_ble_eq_true rfl)) (Nat.le_of_ble_eq_true rfl) dX11_hope_76 (fun r19 μ17 i20 n18 h => ?_)
          have h := h i20 n18
          refine x_iload_n 1 rfl dX11_hope_79 ?_
          refine x_callVl (As := [iV r19, iV p1]) (rest := []) cal_X11_hopeOf ins_X11_hopeOf sel_X11_hopeOf ly260 (by decide) rfl (xX11_hopeOf x 8 r19 p1 _ _ i20 hp1 h) rfl ml_X11_362 (xRoom (Nat.le_of_ble_eq_true rfl)) (Nat.le_of_ble_eq_true rfl) dX11_hope_80 (fun r23 μ21 i24 n22 h => ?_)
          have h := h i24 n22
          refine x_lstore_n [(3, jV r23), (0, .ref (x.2.2.1 + 260)), (1, iV p1), (2, iV p2)] dX11_hope_83 (show 3 + 1 < 7 by decide) rfl ?_
          refine x_lload_n 0 rfl dX11_hope_84 ?_
          refine x_aload_n 1 rfl dX11_hope_85 ?_
          refine x_iload_n 2 rfl dX11_hope_86 ?_
          refine x_callVl (As := [iV p1]) (rest := [jV r23]) cal_X11_power ins_X11_power sel_X11_power ly260 (by decide) rfl (xX11_power x p1 _ _ hp1 h) rfl ml_X11_366 (xRoom (Nat.le_of_ble_eq_true rfl)) (Nat.le_of_ble_eq_true rfl) dX11_hope_87 (fun r27 μ25 i28 n26 h => ?_)
          have h := h i28 n26
          refine x_callSl (As := [jV r23, jV r27]) (rest := []) cal_X11_common sta_X11_common (xX11_common x r23 r27 _ _ i24 i28 h) rfl ml_X11_372 (xRoom (Nat.le_of_ble_eq_true rfl)) (Nat.le_of_ble_eq_true rfl) dX11_hope_90 (fun r31 μ29 i32 n30 h => ?_)
          have h := h i32 n30
          refine x_lstore [(5, jV r31), (3, jV r23), (0, .ref (x.2.2.1 + 260)), (1, iV p1), (2, iV p2)] dX11_hope_93 (show 5 + 1 < 7 by decide) rfl ?_
          refine x_iload_n 4 rfl dX11_hope_95 ?_
          refine x_ifeq (tgt := 107) (xIz hp2)  dX11_hope_96 (by decide) (fun k33 => ?_) (fun k33 => ?_)
          · have h := h.1 k33
            refine x_lload_n 1 rfl dX11_hope_107 ?_
            refine x_lload 0 rfl dX11_hope_108 ?_
            obtain ⟨c34, h⟩ := h
            refine x_ldiv i24 i32 c34 dX11_hope_110 ?_
            obtain ⟨c35, h⟩ := h
            exact x_lret h c35 rfl dX11_hope_111
          · have h := h.2 (xz1 hp2 k33)
            refine x_aload_n 2 rfl dX11_hope_99 ?_
            refine x_iload_n 3 rfl dX11_hope_100 ?_
            refine x_callVl (As := [iV p1]) (rest := []) cal_X11_power ins_X11_power sel_X11_power ly260 (by decide) rfl (xX11_power x p1 _ _ hp1 h) rfl ml_X11_366 (xRoom (Nat.le_of_ble_eq_true rfl)) (Nat.le_of_ble_eq_true rfl) dX11_hope_101 (fun r38 μ36 i39 n37 h => ?_)
            have h := h i39 n37
            refine x_goto (tgt := 108) dX11_hope_104 (by decide) ?_
            refine x_lload 0 rfl dX11_hope_108 ?_
            obtain ⟨c40, h⟩ := h
            refine x_ldiv i39 i32 c40 dX11_hope_110 ?_
            obtain ⟨c41, h⟩ := h
            exact x_lret h c41 rfl dX11_hope_111
        · have h := h.2 k16
          refine x_aload_n 0 rfl dX11_hope_59 ?_
          refine x_getR (j := 37) (r := 279) ly260 (by decide) rfl rfl (by decide) inT11 fl_X11_70 dX11_hope_60 ?_
          refine x_iload_n 3 rfl dX11_hope_63 ?_
          refine x_ldc2 (n := -1) cnl dX11_hope_64 ?_
          obtain ⟨c42, h⟩ := h
          refine x_last ly279 c42.1 c42.2 (xIb (n := 62500) c42 (by decide)) ⟨by decide, by decide⟩ (by decide) (by decide) dX11_hope_67 (fun μ43 e45 n44 => ?_)
          have h := h μ43 e45 n44
          refine x_iinc 3 rfl [(3, iV (l3_12 + 1)), (0, .ref (x.2.2.1 + 260)), (1, iV p1), (2, iV p2)] dX11_hope_68 (show 3 < 7 by decide) rfl ?_
          refine x_goto (tgt := 53) dX11_hope_71 (by decide) ?_
          exact x_sub [1, 2, 3, 0] rfl (hJ53 _ _ h)
      · have h := h.2 k11
        refine x_aload_n 0 rfl dX11_hope_43 ?_
        refine x_bipush dX11_hope_44 (by decide) ?_
        refine x_callVi (As := [iV 6]) (rest := []) cal_X11_no ins_X11_no sel_X11_no ly260 (by decide) rfl (xX11_no x 6 _ _ ⟨by decide, by decide⟩ h) rfl ml_X11_158 (xRoom (Nat.le_of_ble_eq_true rfl)) (Nat.le_of_ble_eq_true rfl) dX11_hope_46 (fun r48 μ46 i49 n47 h => ?_)
        have h := h i49 n47
        refine x_i2l i49 dX11_hope_49 ?_
        exact x_lret h (i49).il rfl dX11_hope_50
    · have h := h.2 k9
      refine x_aload_n 0 rfl dX11_hope_27 ?_
      refine x_iconst dX11_hope_28 ?_
      refine x_callVi (As := [iV 2]) (rest := []) cal_X11_no ins_X11_no sel_X11_no ly260 (by decide) rfl (xX11_no x 2 _ _ ⟨by decide, by decide⟩ h) rfl ml_X11_158 (xRoom (Nat.le_of_ble_eq_true rfl)) (Nat.le_of_ble_eq_true rfl) dX11_hope_29 (fun r52 μ50 i53 n51 h => ?_)
      have h := h i53 n51
      refine x_i2l i53 dX11_hope_32 ?_
      exact x_lret h (i53).il rfl dX11_hope_33
  · have h := h.2 k4
    refine x_aload_n 0 rfl dX11_hope_11 ?_
    refine x_iconst dX11_hope_12 ?_
    refine x_callVi (As := [iV 1]) (rest := []) cal_X11_no ins_X11_no sel_X11_no ly260 (by decide) rfl (xX11_no x 1 _ _ ⟨by decide, by decide⟩ h) rfl ml_X11_158 (xRoom (Nat.le_of_ble_eq_true rfl)) (Nat.le_of_ble_eq_true rfl) dX11_hope_13 (fun r56 μ54 i57 n55 h => ?_)
    have h := h i57 n55
    refine x_i2l i57 dX11_hope_16 ?_
    exact x_lret h (i57).il rfl dX11_hope_17
set_option maxRecDepth 100000 in
set_option maxHeartbeats 4000000 in
theorem xX11_grundyOf (x : xX) (p1 : Int) (μ : xM) (Q : Int → xM → Prop) (hp1 : xIn p1) (h : tX11_grundyOf p1 μ Q) : xMet x 2 yX11_grundyOf cX11_grundyOf 4 (some .int) [.ref (x.2.2.1 + 260), iV p1] μ (xQi x Q) := by
  refine xMet_of (by decide +kernel) (Nat.le_of_ble_eq_true rfl) ?_
  show xW x (xRm 2, RX11, cX11_grundyOf, 4, (some .int), fun _ _ => True) (xQi x Q) 0 [(0, .ref (x.2.2.1 + 260)), (1, iV p1)] [] μ
  refine x_ran (fun n0 => ?_)
  have h := h n0 hp1
  refine x_iconst dX11_grundyOf_0 ?_
  refine x_istore_n [(2, iV 0), (0, .ref (x.2.2.1 + 260)), (1, iV p1)] dX11_grundyOf_1 (show 2 < 4 by decide) rfl ?_
  refine x_iconst dX11_grundyOf_2 ?_
  refine x_istore_n [(3, iV 0), (2, iV 0), (0, .ref (x.2.2.1 + 260)), (1, iV p1)] dX11_grundyOf_3 (show 3 < 4 by decide) rfl ?_
  refine x_sub [2, 3, 1, 0] rfl ?_
  refine x_loop2 (fun l2_1 l3_2 => [(0, .ref (x.2.2.1 + 260)), (1, iV p1), (2, iV l2_1), (3, iV l3_2)]) h (fun J4 l2_1 l3_2 μ3 hJ4 h n4 => ?_)
  refine x_iload_n 3 rfl dX11_grundyOf_4 ?_
  refine x_aload_n 0 rfl dX11_grundyOf_5 ?_
  refine x_getR (j := 15) (r := 263) ly260 (by decide) rfl rfl (by decide) inT11 fl_X11_20 dX11_grundyOf_6 ?_
  refine x_iconst dX11_grundyOf_9 ?_
  refine x_iald ly263 (by decide) (by decide) ⟨by decide, by decide⟩ (by decide) dX11_grundyOf_10 (fun r5 => ?_)
  obtain ⟨c6, h⟩ := h
  refine x_icmpge (tgt := 33) c6 r5 dX11_grundyOf_11 (by decide) (fun k7 => ?_) (fun k7 => ?_)
  · have h := h.1 k7
    refine x_iload_n 2 rfl dX11_grundyOf_33 ?_
    obtain ⟨c8, h⟩ := h
    exact x_iret h c8 rfl dX11_grundyOf_34
  · have h := h.2 k7
    refine x_iload_n 2 rfl dX11_grundyOf_14 ?_
    refine x_aload_n 0 rfl dX11_grundyOf_15 ?_
    refine x_getR (j := 22) (r := 269) ly260 (by decide) rfl rfl (by decide) inT11 fl_X11_38 dX11_grundyOf_16 ?_
    refine x_iload_n 1 rfl dX11_grundyOf_19 ?_
    refine x_iload_n 3 rfl dX11_grundyOf_20 ?_
    refine x_callSi (As := [iV p1, iV l3_2]) (rest := [.ref (x.2.2.1 + 269), iV l2_1]) cal_X11_wordOf sta_X11_wordOf (xX11_wordOf x p1 l3_2 _ _ hp1 c6 h) rfl ml_X11_315 (xRoom (Nat.le_of_ble_eq_true rfl)) (Nat.le_of_ble_eq_true rfl) dX11_grundyOf_21 (fun r11 μ9 i12 n10 h => ?_)
    have h := h i12 n10
    obtain ⟨c13, h⟩ := h
    refine x_iald ly269 c13.1 c13.2 i12 (by decide) dX11_grundyOf_24 (fun r14 => ?_)
    refine x_ixor dX11_grundyOf_25 ?_
    refine x_istore_n [(2, iV (xXor l2_1 (μ9 269 r11.toNat))), (0, .ref (x.2.2.1 + 260)), (1, iV p1), (3, iV l3_2)] dX11_grundyOf_26 (show 2 < 4 by decide) rfl ?_
    refine x_iinc 3 rfl [(3, iV (l3_2 + 1)), (2, iV (xXor l2_1 (μ9 269 r11.toNat))), (0, .ref (x.2.2.1 + 260)), (1, iV p1)] dX11_grundyOf_27 (show 3 < 4 by decide) rfl ?_
    refine x_goto (tgt := 4) dX11_grundyOf_30 (by decide) ?_
    exact x_sub [2, 3, 1, 0] rfl (hJ4 _ _ _ h)
set_option maxRecDepth 100000 in
set_option maxHeartbeats 4000000 in
theorem xX11_game (x : xX)  (μ : xM) (Q : Int → xM → Prop)  (h : tX11_game  μ Q) : xMet x 3 yX11_game cX11_game 1 (some .int) [.ref (x.2.2.1 + 260)] μ (xQi x Q) := by
  refine xMet_of (by decide +kernel) (Nat.le_of_ble_eq_true rfl) ?_
  show xW x (xRm 3, RX11, cX11_game, 1, (some .int), fun _ _ => True) (xQi x Q) 0 [(0, .ref (x.2.2.1 + 260))] [] μ
  refine x_ran (fun n0 => ?_)
  have h := h n0 
  refine x_aload_n 0 rfl dX11_game_0 ?_
  refine x_callVv (As := []) (rest := []) cal_X11_good ins_X11_good sel_X11_good ly260 (by decide) rfl (xX11_good x  _ _  h) rfl ml_X11_155 (xRoom (Nat.le_of_ble_eq_true rfl)) (Nat.le_of_ble_eq_true rfl) dX11_game_1 (fun μ1 n2 h => ?_)
  have h := h n2
  refine x_aload_n 0 rfl dX11_game_4 ?_
  refine x_getI (j := 14) ly260 (by decide) rfl rfl (by decide) inT11 fl_X11_164 dX11_game_5 (fun r3 => ?_)
  refine x_ifeq (tgt := 22) r3  dX11_game_8 (by decide) (fun k4 => ?_) (fun k4 => ?_)
  · have h := h.1 k4
    refine x_aload_n 0 rfl dX11_game_22 ?_
    refine x_iconst dX11_game_23 ?_
    refine x_callVi (As := [iV 1]) (rest := []) cal_X11_no ins_X11_no sel_X11_no ly260 (by decide) rfl (xX11_no x 1 _ _ ⟨by decide, by decide⟩ h) rfl ml_X11_158 (xRoom (Nat.le_of_ble_eq_true rfl)) (Nat.le_of_ble_eq_true rfl) dX11_game_24 (fun r7 μ5 i8 n6 h => ?_)
    have h := h i8 n6
    exact x_iret h i8 rfl dX11_game_27
  · have h := h.2 k4
    refine x_aload_n 0 rfl dX11_game_11 ?_
    refine x_aload_n 0 rfl dX11_game_12 ?_
    refine x_callVi (As := []) (rest := [.ref (x.2.2.1 + 260)]) cal_X11_code ins_X11_code sel_X11_code ly260 (by decide) rfl (xX11_code x  _ _  h) rfl ml_X11_331 (xRoom (Nat.le_of_ble_eq_true rfl)) (Nat.le_of_ble_eq_true rfl) dX11_game_13 (fun r11 μ9 i12 n10 h => ?_)
    have h := h i12 n10
    refine x_callVi (As := [iV r11]) (rest := []) cal_X11_grundyOf ins_X11_grundyOf sel_X11_grundyOf ly260 (by decide) rfl (xX11_grundyOf x r11 _ _ i12 h) rfl ml_X11_376 (xRoom (Nat.le_of_ble_eq_true rfl)) (Nat.le_of_ble_eq_true rfl) dX11_game_16 (fun r15 μ13 i16 n14 h => ?_)
    have h := h i16 n14
    refine x_goto (tgt := 27) dX11_game_19 (by decide) ?_
    exact x_iret h i16 rfl dX11_game_27
set_option maxRecDepth 100000 in
set_option maxHeartbeats 4000000 in
theorem xX11_move (x : xX)  (μ : xM) (Q : Int → xM → Prop)  (h : tX11_move  μ Q) : xMet x 3 yX11_move cX11_move 3 (some .int) [.ref (x.2.2.1 + 260)] μ (xQi x Q) := by
  refine xMet_of (by decide +kernel) (Nat.le_of_ble_eq_true rfl) ?_
  show xW x (xRm 3, RX11, cX11_move, 3, (some .int), fun _ _ => True) (xQi x Q) 0 [(0, .ref (x.2.2.1 + 260))] [] μ
  refine x_ran (fun n0 => ?_)
  have h := h n0 
  refine x_aload_n 0 rfl dX11_move_0 ?_
  refine x_callVv (As := []) (rest := []) cal_X11_good ins_X11_good sel_X11_good ly260 (by decide) rfl (xX11_good x  _ _  h) rfl ml_X11_155 (xRoom (Nat.le_of_ble_eq_true rfl)) (Nat.le_of_ble_eq_true rfl) dX11_move_1 (fun μ1 n2 h => ?_)
  have h := h n2
  refine x_aload_n 0 rfl dX11_move_4 ?_
  refine x_getI (j := 14) ly260 (by decide) rfl rfl (by decide) inT11 fl_X11_164 dX11_move_5 (fun r3 => ?_)
  refine x_ifne (tgt := 17) r3  dX11_move_8 (by decide) (fun k4 => ?_) (fun k4 => ?_)
  · have h := h.1 k4
    refine x_iconst dX11_move_17 ?_
    refine x_istore_n [(1, iV 0), (0, .ref (x.2.2.1 + 260))] dX11_move_18 (show 1 < 3 by decide) rfl ?_
    refine x_sub [1, 0] rfl ?_
    refine x_loop1 (fun l1_5 => [(0, .ref (x.2.2.1 + 260)), (1, iV l1_5)]) h (fun J19 l1_5 μ6 hJ19 h n7 => ?_)
    refine x_iload_n 1 rfl dX11_move_19 ?_
    refine x_aload_n 0 rfl dX11_move_20 ?_
    refine x_getR (j := 15) (r := 263) ly260 (by decide) rfl rfl (by decide) inT11 fl_X11_20 dX11_move_21 ?_
    refine x_iconst dX11_move_24 ?_
    refine x_iald ly263 (by decide) (by decide) ⟨by decide, by decide⟩ (by decide) dX11_move_25 (fun r8 => ?_)
    obtain ⟨c9, h⟩ := h
    refine x_icmpge (tgt := 95) c9 r8 dX11_move_26 (by decide) (fun k10 => ?_) (fun k10 => ?_)
    · have h := h.1 k10
      refine x_bipush dX11_move_95 (by decide) ?_
      exact x_iret h ⟨by decide, by decide⟩ rfl dX11_move_97
    · have h := h.2 k10
      refine x_iconst dX11_move_29 ?_
      refine x_istore_n [(2, iV 0), (0, .ref (x.2.2.1 + 260)), (1, iV l1_5)] dX11_move_30 (show 2 < 3 by decide) rfl ?_
      refine x_sub [1, 2, 0] rfl ?_
      refine x_loop1 (fun l2_11 => [(0, .ref (x.2.2.1 + 260)), (1, iV l1_5), (2, iV l2_11)]) h (fun J31 l2_11 μ12 hJ31 h n13 => ?_)
      refine x_iload_n 2 rfl dX11_move_31 ?_
      refine x_aload_n 0 rfl dX11_move_32 ?_
      refine x_getR (j := 15) (r := 263) ly260 (by decide) rfl rfl (by decide) inT11 fl_X11_20 dX11_move_33 ?_
      refine x_iconst dX11_move_36 ?_
      refine x_iald ly263 (by decide) (by decide) ⟨by decide, by decide⟩ (by decide) dX11_move_37 (fun r14 => ?_)
      obtain ⟨c15, h⟩ := h
      refine x_icmpge (tgt := 89) c15 r14 dX11_move_38 (by decide) (fun k16 => ?_) (fun k16 => ?_)
      · have h := h.1 k16
        refine x_iinc 1 rfl [(1, iV (l1_5 + 1)), (0, .ref (x.2.2.1 + 260)), (2, iV l2_11)] dX11_move_89 (show 1 < 3 by decide) rfl ?_
        refine x_goto (tgt := 19) dX11_move_92 (by decide) ?_
        exact x_sub [1, 0] rfl (hJ19 _ _ h)
      · have h := h.2 k16
        refine x_aload_n 0 rfl dX11_move_41 ?_
        refine x_getR (j := 20) (r := 267) ly260 (by decide) rfl rfl (by decide) inT11 fl_X11_32 dX11_move_42 ?_
        refine x_bipush dX11_move_45 (by decide) ?_
        refine x_aload_n 0 rfl dX11_move_47 ?_
        refine x_getR (j := 17) (r := 265) ly260 (by decide) rfl rfl (by decide) inT11 fl_X11_26 dX11_move_48 ?_
        refine x_iload_n 1 rfl dX11_move_51 ?_
        obtain ⟨c17, h⟩ := h
        refine x_iald ly265 c17.1 c17.2 (xIb (n := 6) c17 (by decide)) (by decide) dX11_move_52 (fun r18 => ?_)
        refine x_imul dX11_move_53 ?_
        refine x_iload_n 2 rfl dX11_move_54 ?_
        refine x_iadd dX11_move_55 ?_
        obtain ⟨c19, h⟩ := h
        refine x_iald ly267 c19.1 c19.2 (xIb (n := 600) c19 (by decide)) (by decide) dX11_move_56 (fun r20 => ?_)
        refine x_iflt (tgt := 83) r20  dX11_move_57 (by decide) (fun k21 => ?_) (fun k21 => ?_)
        · have h := h.1 k21
          refine x_iinc 2 rfl [(2, iV (l2_11 + 1)), (0, .ref (x.2.2.1 + 260)), (1, iV l1_5)] dX11_move_83 (show 2 < 3 by decide) rfl ?_
          refine x_goto (tgt := 31) dX11_move_86 (by decide) ?_
          exact x_sub [1, 2, 0] rfl (hJ31 _ _ h)
        · have h := h.2 k21
          refine x_aload_n 0 rfl dX11_move_60 ?_
          refine x_aload_n 0 rfl dX11_move_61 ?_
          refine x_callVi (As := []) (rest := [.ref (x.2.2.1 + 260)]) cal_X11_code ins_X11_code sel_X11_code ly260 (by decide) rfl (xX11_code x  _ _  h) rfl ml_X11_331 (xRoom (Nat.le_of_ble_eq_true rfl)) (Nat.le_of_ble_eq_true rfl) dX11_move_62 (fun r24 μ22 i25 n23 h => ?_)
          have h := h i25 n23
          refine x_iload_n 1 rfl dX11_move_65 ?_
          refine x_iload_n 2 rfl dX11_move_66 ?_
          obtain ⟨c26, h⟩ := h
          refine x_callSi (As := [iV r24, iV l1_5, iV l2_11]) (rest := [.ref (x.2.2.1 + 260)]) cal_X11_withWord sta_X11_withWord (xX11_withWord x r24 l1_5 l2_11 _ _ i25 c26 c15 h) rfl ml_X11_318 (xRoom (Nat.le_of_ble_eq_true rfl)) (Nat.le_of_ble_eq_true rfl) dX11_move_67 (fun r29 μ27 i30 n28 h => ?_)
          have h := h i30 n28
          refine x_callVi (As := [iV r29]) (rest := []) cal_X11_grundyOf ins_X11_grundyOf sel_X11_grundyOf ly260 (by decide) rfl (xX11_grundyOf x r29 _ _ i30 h) rfl ml_X11_376 (xRoom (Nat.le_of_ble_eq_true rfl)) (Nat.le_of_ble_eq_true rfl) dX11_move_70 (fun r33 μ31 i34 n32 h => ?_)
          have h := h i34 n32
          refine x_ifne (tgt := 83) i34  dX11_move_73 (by decide) (fun k35 => ?_) (fun k35 => ?_)
          · have h := h.1 k35
            refine x_iinc 2 rfl [(2, iV (l2_11 + 1)), (0, .ref (x.2.2.1 + 260)), (1, iV l1_5)] dX11_move_83 (show 2 < 3 by decide) rfl ?_
            refine x_goto (tgt := 31) dX11_move_86 (by decide) ?_
            exact x_sub [1, 2, 0] rfl (hJ31 _ _ h)
          · have h := h.2 k35
            refine x_bipush dX11_move_76 (by decide) ?_
            refine x_iload_n 1 rfl dX11_move_78 ?_
            refine x_imul dX11_move_79 ?_
            refine x_iload_n 2 rfl dX11_move_80 ?_
            refine x_iadd dX11_move_81 ?_
            obtain ⟨c36, h⟩ := h
            exact x_iret h c36 rfl dX11_move_82
  · have h := h.2 k4
    refine x_aload_n 0 rfl dX11_move_11 ?_
    refine x_iconst dX11_move_12 ?_
    refine x_callVi (As := [iV 1]) (rest := []) cal_X11_no ins_X11_no sel_X11_no ly260 (by decide) rfl (xX11_no x 1 _ _ ⟨by decide, by decide⟩ h) rfl ml_X11_158 (xRoom (Nat.le_of_ble_eq_true rfl)) (Nat.le_of_ble_eq_true rfl) dX11_move_13 (fun r39 μ37 i40 n38 h => ?_)
    have h := h i40 n38
    exact x_iret h i40 rfl dX11_move_16
set_option maxRecDepth 100000 in
set_option maxHeartbeats 4000000 in
theorem xX11_mark (x : xX)  (μ : xM) (Q : Int → xM → Prop)  (h : tX11_mark  μ Q) : xMet x 2 yX11_mark cX11_mark 2 (some .int) [.ref (x.2.2.1 + 260)] μ (xQi x Q) := by
  refine xMet_of (by decide +kernel) (Nat.le_of_ble_eq_true rfl) ?_
  show xW x (xRm 2, RX11, cX11_mark, 2, (some .int), fun _ _ => True) (xQi x Q) 0 [(0, .ref (x.2.2.1 + 260))] [] μ
  refine x_ran (fun n0 => ?_)
  have h := h n0 
  refine x_aload_n 0 rfl dX11_mark_0 ?_
  refine x_callVv (As := []) (rest := []) cal_X11_good ins_X11_good sel_X11_good ly260 (by decide) rfl (xX11_good x  _ _  h) rfl ml_X11_155 (xRoom (Nat.le_of_ble_eq_true rfl)) (Nat.le_of_ble_eq_true rfl) dX11_mark_1 (fun μ1 n2 h => ?_)
  have h := h n2
  refine x_aload_n 0 rfl dX11_mark_4 ?_
  refine x_getI (j := 14) ly260 (by decide) rfl rfl (by decide) inT11 fl_X11_164 dX11_mark_5 (fun r3 => ?_)
  refine x_ifne (tgt := 17) r3  dX11_mark_8 (by decide) (fun k4 => ?_) (fun k4 => ?_)
  · have h := h.1 k4
    refine x_aload_n 0 rfl dX11_mark_17 ?_
    refine x_getI (j := 19) ly260 (by decide) rfl rfl (by decide) inT11 fl_X11_174 dX11_mark_18 (fun r5 => ?_)
    refine x_iconst dX11_mark_21 ?_
    refine x_icmpne (tgt := 31) r5 ⟨by decide, by decide⟩ dX11_mark_22 (by decide) (fun k6 => ?_) (fun k6 => ?_)
    · have h := h.1 k6
      refine x_iconst dX11_mark_31 ?_
      refine x_istore_n [(1, iV 0), (0, .ref (x.2.2.1 + 260))] dX11_mark_32 (show 1 < 2 by decide) rfl ?_
      refine x_sub [1, 0] rfl ?_
      refine x_loop1 (fun l1_7 => [(0, .ref (x.2.2.1 + 260)), (1, iV l1_7)]) h (fun J33 l1_7 μ8 hJ33 h n9 => ?_)
      refine x_iload_n 1 rfl dX11_mark_33 ?_
      refine x_bipush dX11_mark_34 (by decide) ?_
      obtain ⟨c10, h⟩ := h
      refine x_icmpge (tgt := 65) c10 ⟨by decide, by decide⟩ dX11_mark_36 (by decide) (fun k11 => ?_) (fun k11 => ?_)
      · have h := h.1 k11
        refine x_aload_n 0 rfl dX11_mark_65 ?_
        refine x_dup rfl dX11_mark_66 ?_
        refine x_getI (j := 19) ly260 (by decide) rfl rfl (by decide) inT11 fl_X11_174 dX11_mark_67 (fun r12 => ?_)
        refine x_iconst dX11_mark_70 ?_
        refine x_iadd dX11_mark_71 ?_
        obtain ⟨c13, h⟩ := h
        refine x_putI (j := 19) ly260 (by decide) rfl rfl (by decide) inT11 fl_X11_174 tyX11 tyX11_ok nmX11 rfl c13 (by decide +kernel) dX11_mark_72 (fun μ14 e16 n15 => ?_)
        have h := h μ14 e16 n15
        refine x_aload_n 0 rfl dX11_mark_75 ?_
        refine x_getI (j := 19) ly260 (by decide) rfl rfl (by decide) inT11 fl_X11_174 dX11_mark_76 (fun r17 => ?_)
        refine x_iconst dX11_mark_79 ?_
        refine x_isub dX11_mark_80 ?_
        obtain ⟨c18, h⟩ := h
        exact x_iret h c18 rfl dX11_mark_81
      · have h := h.2 k11
        refine x_aload_n 0 rfl dX11_mark_39 ?_
        refine x_getR (j := 18) (r := 266) ly260 (by decide) rfl rfl (by decide) inT11 fl_X11_29 dX11_mark_40 ?_
        refine x_bipush dX11_mark_43 (by decide) ?_
        refine x_aload_n 0 rfl dX11_mark_45 ?_
        refine x_getI (j := 19) ly260 (by decide) rfl rfl (by decide) inT11 fl_X11_174 dX11_mark_46 (fun r19 => ?_)
        refine x_imul dX11_mark_49 ?_
        refine x_iload_n 1 rfl dX11_mark_50 ?_
        refine x_iadd dX11_mark_51 ?_
        refine x_aload_n 0 rfl dX11_mark_52 ?_
        refine x_getR (j := 17) (r := 265) ly260 (by decide) rfl rfl (by decide) inT11 fl_X11_26 dX11_mark_53 ?_
        refine x_iload_n 1 rfl dX11_mark_56 ?_
        obtain ⟨c20, h⟩ := h
        refine x_iald ly265 c20.1 c20.2 (xIb (n := 6) c20 (by decide)) (by decide) dX11_mark_57 (fun r21 => ?_)
        obtain ⟨c22, h⟩ := h
        refine x_iast ly266 c22.1 c22.2 (xIb (n := 18) c22 (by decide)) r21 (by decide) dX11_mark_58 (fun μ23 e25 n24 => ?_)
        have h := h μ23 e25 n24
        refine x_iinc 1 rfl [(1, iV (l1_7 + 1)), (0, .ref (x.2.2.1 + 260))] dX11_mark_59 (show 1 < 2 by decide) rfl ?_
        refine x_goto (tgt := 33) dX11_mark_62 (by decide) ?_
        exact x_sub [1, 0] rfl (hJ33 _ _ h)
    · have h := h.2 k6
      refine x_aload_n 0 rfl dX11_mark_25 ?_
      refine x_iconst dX11_mark_26 ?_
      refine x_callVi (As := [iV 3]) (rest := []) cal_X11_no ins_X11_no sel_X11_no ly260 (by decide) rfl (xX11_no x 3 _ _ ⟨by decide, by decide⟩ h) rfl ml_X11_158 (xRoom (Nat.le_of_ble_eq_true rfl)) (Nat.le_of_ble_eq_true rfl) dX11_mark_27 (fun r28 μ26 i29 n27 h => ?_)
      have h := h i29 n27
      exact x_iret h i29 rfl dX11_mark_30
  · have h := h.2 k4
    refine x_aload_n 0 rfl dX11_mark_11 ?_
    refine x_iconst dX11_mark_12 ?_
    refine x_callVi (As := [iV 1]) (rest := []) cal_X11_no ins_X11_no sel_X11_no ly260 (by decide) rfl (xX11_no x 1 _ _ ⟨by decide, by decide⟩ h) rfl ml_X11_158 (xRoom (Nat.le_of_ble_eq_true rfl)) (Nat.le_of_ble_eq_true rfl) dX11_mark_13 (fun r32 μ30 i33 n31 h => ?_)
    have h := h i33 n31
    exact x_iret h i33 rfl dX11_mark_16
set_option maxRecDepth 100000 in
set_option maxHeartbeats 4000000 in
theorem xX11_back (x : xX) (p1 : Int) (μ : xM) (Q : Int → xM → Prop) (hp1 : xIn p1) (h : tX11_back p1 μ Q) : xMet x 2 yX11_back cX11_back 3 (some .boolean) [.ref (x.2.2.1 + 260), iV p1] μ (xQz x Q) := by
  refine xMet_of (by decide +kernel) (Nat.le_of_ble_eq_true rfl) ?_
  show xW x (xRm 2, RX11, cX11_back, 3, (some .boolean), fun _ _ => True) (xQz x Q) 0 [(0, .ref (x.2.2.1 + 260)), (1, iV p1)] [] μ
  refine x_ran (fun n0 => ?_)
  have h := h n0 hp1
  refine x_aload_n 0 rfl dX11_back_0 ?_
  refine x_callVv (As := []) (rest := []) cal_X11_good ins_X11_good sel_X11_good ly260 (by decide) rfl (xX11_good x  _ _  h) rfl ml_X11_155 (xRoom (Nat.le_of_ble_eq_true rfl)) (Nat.le_of_ble_eq_true rfl) dX11_back_1 (fun μ1 n2 h => ?_)
  have h := h n2
  refine x_iload_n 1 rfl dX11_back_4 ?_
  refine x_iconst dX11_back_5 ?_
  refine x_aload_n 0 rfl dX11_back_6 ?_
  refine x_getI (j := 19) ly260 (by decide) rfl rfl (by decide) inT11 fl_X11_174 dX11_back_7 (fun r3 => ?_)
  refine x_iconst dX11_back_10 ?_
  refine x_isub dX11_back_11 ?_
  obtain ⟨c4, h⟩ := h
  refine x_callSz (As := [iV p1, iV 0, iV ((μ1 260 19) - 1)]) (rest := []) cal_X11_within sta_X11_within (xX11_within x p1 0 ((μ1 260 19) - 1) _ _ hp1 ⟨by decide, by decide⟩ c4 h) rfl ml_X11_143 (xRoom (Nat.le_of_ble_eq_true rfl)) (Nat.le_of_ble_eq_true rfl) dX11_back_12 (fun r7 μ5 i8 n6 h => ?_)
  have h := h i8 n6
  refine x_ifne (tgt := 24) (xIz i8)  dX11_back_15 (by decide) (fun k9 => ?_) (fun k9 => ?_)
  · have h := h.1 (xz1 i8 k9)
    refine x_iconst dX11_back_24 ?_
    refine x_istore_n [(2, iV 0), (0, .ref (x.2.2.1 + 260)), (1, iV p1)] dX11_back_25 (show 2 < 3 by decide) rfl ?_
    refine x_sub [1, 2, 0] rfl ?_
    refine x_loop1 (fun l2_10 => [(0, .ref (x.2.2.1 + 260)), (1, iV p1), (2, iV l2_10)]) h (fun J26 l2_10 μ11 hJ26 h n12 => ?_)
    refine x_iload_n 2 rfl dX11_back_26 ?_
    refine x_bipush dX11_back_27 (by decide) ?_
    obtain ⟨c13, h⟩ := h
    refine x_icmpge (tgt := 55) c13 ⟨by decide, by decide⟩ dX11_back_29 (by decide) (fun k14 => ?_) (fun k14 => ?_)
    · have h := h.1 k14
      refine x_iconst dX11_back_55 ?_
      exact x_zret h (Or.inr rfl) rfl dX11_back_56
    · have h := h.2 k14
      refine x_aload_n 0 rfl dX11_back_32 ?_
      refine x_getR (j := 17) (r := 265) ly260 (by decide) rfl rfl (by decide) inT11 fl_X11_26 dX11_back_33 ?_
      refine x_iload_n 2 rfl dX11_back_36 ?_
      refine x_aload_n 0 rfl dX11_back_37 ?_
      refine x_getR (j := 18) (r := 266) ly260 (by decide) rfl rfl (by decide) inT11 fl_X11_29 dX11_back_38 ?_
      refine x_bipush dX11_back_41 (by decide) ?_
      refine x_iload_n 1 rfl dX11_back_43 ?_
      refine x_imul dX11_back_44 ?_
      refine x_iload_n 2 rfl dX11_back_45 ?_
      refine x_iadd dX11_back_46 ?_
      obtain ⟨c15, h⟩ := h
      refine x_iald ly266 c15.1 c15.2 (xIb (n := 18) c15 (by decide)) (by decide) dX11_back_47 (fun r16 => ?_)
      obtain ⟨c17, h⟩ := h
      refine x_iast ly265 c17.1 c17.2 (xIb (n := 6) c17 (by decide)) r16 (by decide) dX11_back_48 (fun μ18 e20 n19 => ?_)
      have h := h μ18 e20 n19
      refine x_iinc 2 rfl [(2, iV (l2_10 + 1)), (0, .ref (x.2.2.1 + 260)), (1, iV p1)] dX11_back_49 (show 2 < 3 by decide) rfl ?_
      refine x_goto (tgt := 26) dX11_back_52 (by decide) ?_
      exact x_sub [1, 2, 0] rfl (hJ26 _ _ h)
  · have h := h.2 k9
    refine x_aload_n 0 rfl dX11_back_18 ?_
    refine x_iconst dX11_back_19 ?_
    refine x_callVz (As := [iV 1]) (rest := []) cal_X11_isNot ins_X11_isNot sel_X11_isNot ly260 (by decide) rfl (xX11_isNot x 1 _ _ ⟨by decide, by decide⟩ h) rfl ml_X11_312 (xRoom (Nat.le_of_ble_eq_true rfl)) (Nat.le_of_ble_eq_true rfl) dX11_back_20 (fun r23 μ21 i24 n22 h => ?_)
    have h := h i24 n22
    exact x_zret h i24 rfl dX11_back_23
set_option maxRecDepth 100000 in
set_option maxHeartbeats 4000000 in
theorem xX11_firstWrong (x : xX)  (μ : xM) (Q : Int → xM → Prop)  (h : tX11_firstWrong  μ Q) : xMet x 2 yX11_firstWrong cX11_firstWrong 3 (some .int) [.ref (x.2.2.1 + 260)] μ (xQi x Q) := by
  refine xMet_of (by decide +kernel) (Nat.le_of_ble_eq_true rfl) ?_
  show xW x (xRm 2, RX11, cX11_firstWrong, 3, (some .int), fun _ _ => True) (xQi x Q) 0 [(0, .ref (x.2.2.1 + 260))] [] μ
  refine x_ran (fun n0 => ?_)
  have h := h n0 
  refine x_iconst dX11_firstWrong_0 ?_
  refine x_istore_n [(1, iV 0), (0, .ref (x.2.2.1 + 260))] dX11_firstWrong_1 (show 1 < 3 by decide) rfl ?_
  refine x_sub [1, 0] rfl ?_
  refine x_loop1 (fun l1_1 => [(0, .ref (x.2.2.1 + 260)), (1, iV l1_1)]) h (fun J2 l1_1 μ2 hJ2 h n3 => ?_)
  refine x_iload_n 1 rfl dX11_firstWrong_2 ?_
  refine x_aload_n 0 rfl dX11_firstWrong_3 ?_
  refine x_getR (j := 15) (r := 263) ly260 (by decide) rfl rfl (by decide) inT11 fl_X11_20 dX11_firstWrong_4 ?_
  refine x_bipush dX11_firstWrong_7 (by decide) ?_
  refine x_iald ly263 (by decide) (by decide) ⟨by decide, by decide⟩ (by decide) dX11_firstWrong_9 (fun r4 => ?_)
  obtain ⟨c5, h⟩ := h
  refine x_icmpge (tgt := 69) c5 r4 dX11_firstWrong_10 (by decide) (fun k6 => ?_) (fun k6 => ?_)
  · have h := h.1 k6
    refine x_bipush dX11_firstWrong_69 (by decide) ?_
    exact x_iret h ⟨by decide, by decide⟩ rfl dX11_firstWrong_71
  · have h := h.2 k6
    refine x_aload_n 0 rfl dX11_firstWrong_13 ?_
    refine x_getR (j := 15) (r := 263) ly260 (by decide) rfl rfl (by decide) inT11 fl_X11_20 dX11_firstWrong_14 ?_
    refine x_sipush dX11_firstWrong_17 (by decide) ?_
    refine x_iload_n 1 rfl dX11_firstWrong_20 ?_
    refine x_iadd dX11_firstWrong_21 ?_
    obtain ⟨c7, h⟩ := h
    refine x_iald ly263 c7.1 c7.2 (xIb (n := 322) c7 (by decide)) (by decide) dX11_firstWrong_22 (fun r8 => ?_)
    refine x_istore_n [(2, iV (μ2 263 ((315 + l1_1).toNat))), (0, .ref (x.2.2.1 + 260)), (1, iV l1_1)] dX11_firstWrong_23 (show 2 < 3 by decide) rfl ?_
    refine x_aload_n 1 rfl dX11_firstWrong_24 ?_
    refine x_iload_n 0 rfl dX11_firstWrong_25 ?_
    refine x_callVz (As := [iV (μ2 263 ((315 + l1_1).toNat))]) (rest := []) cal_X11_isGood ins_X11_isGood sel_X11_isGood ly260 (by decide) rfl (xX11_isGood x (μ2 263 ((315 + l1_1).toNat)) _ _ r8 h) rfl ml_X11_240 (xRoom (Nat.le_of_ble_eq_true rfl)) (Nat.le_of_ble_eq_true rfl) dX11_firstWrong_26 (fun r11 μ9 i12 n10 h => ?_)
    have h := h i12 n10
    refine x_ifeq (tgt := 61) (xIz i12)  dX11_firstWrong_29 (by decide) (fun k13 => ?_) (fun k13 => ?_)
    · have h := h.1 k13
      refine x_iload_n 2 rfl dX11_firstWrong_61 ?_
      exact x_iret h c5 rfl dX11_firstWrong_62
    · have h := h.2 (xz1 i12 k13)
      refine x_iload_n 2 rfl dX11_firstWrong_32 ?_
      refine x_ifle (tgt := 63) c5  dX11_firstWrong_33 (by decide) (fun k14 => ?_) (fun k14 => ?_)
      · have h := h.1 k14
        refine x_iinc 2 rfl [(1, iV (l1_1 + 1)), (2, iV (μ2 263 ((315 + l1_1).toNat))), (0, .ref (x.2.2.1 + 260))] dX11_firstWrong_63 (show 1 < 3 by decide) rfl ?_
        refine x_goto (tgt := 2) dX11_firstWrong_66 (by decide) ?_
        exact x_sub [2, 0] rfl (hJ2 _ _ h)
      · have h := h.2 k14
        refine x_aload_n 1 rfl dX11_firstWrong_36 ?_
        refine x_getR (j := 20) (r := 267) ly260 (by decide) rfl rfl (by decide) inT11 fl_X11_32 dX11_firstWrong_37 ?_
        refine x_bipush dX11_firstWrong_40 (by decide) ?_
        refine x_aload_n 1 rfl dX11_firstWrong_42 ?_
        refine x_getR (j := 15) (r := 263) ly260 (by decide) rfl rfl (by decide) inT11 fl_X11_20 dX11_firstWrong_43 ?_
        refine x_sipush dX11_firstWrong_46 (by decide) ?_
        refine x_iload_n 2 rfl dX11_firstWrong_49 ?_
        refine x_iadd dX11_firstWrong_50 ?_
        refine x_iconst dX11_firstWrong_51 ?_
        refine x_isub dX11_firstWrong_52 ?_
        obtain ⟨c15, h⟩ := h
        refine x_iald ly263 c15.1 c15.2 (xIb (n := 322) c15 (by decide)) (by decide) dX11_firstWrong_53 (fun r16 => ?_)
        refine x_imul dX11_firstWrong_54 ?_
        refine x_iload_n 0 rfl dX11_firstWrong_55 ?_
        refine x_iadd dX11_firstWrong_56 ?_
        obtain ⟨c17, h⟩ := h
        refine x_iald ly267 c17.1 c17.2 (xIb (n := 600) c17 (by decide)) (by decide) dX11_firstWrong_57 (fun r18 => ?_)
        refine x_ifge (tgt := 63) r18  dX11_firstWrong_58 (by decide) (fun k19 => ?_) (fun k19 => ?_)
        · have h := h.1 k19
          refine x_iinc 2 rfl [(1, iV (l1_1 + 1)), (2, iV (μ2 263 ((315 + l1_1).toNat))), (0, .ref (x.2.2.1 + 260))] dX11_firstWrong_63 (show 1 < 3 by decide) rfl ?_
          refine x_goto (tgt := 2) dX11_firstWrong_66 (by decide) ?_
          exact x_sub [2, 0] rfl (hJ2 _ _ h)
        · have h := h.2 k19
          refine x_iload_n 2 rfl dX11_firstWrong_61 ?_
          exact x_iret h c5 rfl dX11_firstWrong_62
set_option maxRecDepth 100000 in
set_option maxHeartbeats 4000000 in
theorem xX11_seenWhy (x : xX)  (μ : xM) (Q : Int → xM → Prop)  (h : tX11_seenWhy  μ Q) : xMet x 1 yX11_seenWhy cX11_seenWhy 1 (some .int) [.ref (x.2.2.1 + 260)] μ (xQi x Q) := by
  refine xMet_of (by decide +kernel) (Nat.le_of_ble_eq_true rfl) ?_
  show xW x (xRm 1, RX11, cX11_seenWhy, 1, (some .int), fun _ _ => True) (xQi x Q) 0 [(0, .ref (x.2.2.1 + 260))] [] μ
  refine x_ran (fun n0 => ?_)
  have h := h n0 
  refine x_aload_n 0 rfl dX11_seenWhy_0 ?_
  refine x_getI (j := 14) ly260 (by decide) rfl rfl (by decide) inT11 fl_X11_164 dX11_seenWhy_1 (fun r1 => ?_)
  refine x_ifne (tgt := 11) r1  dX11_seenWhy_4 (by decide) (fun k2 => ?_) (fun k2 => ?_)
  · have h := h.1 k2
    refine x_aload_n 0 rfl dX11_seenWhy_11 ?_
    refine x_getR (j := 15) (r := 263) ly260 (by decide) rfl rfl (by decide) inT11 fl_X11_20 dX11_seenWhy_12 ?_
    refine x_bipush dX11_seenWhy_15 (by decide) ?_
    refine x_iald ly263 (by decide) (by decide) ⟨by decide, by decide⟩ (by decide) dX11_seenWhy_17 (fun r3 => ?_)
    refine x_ifne (tgt := 26) r3  dX11_seenWhy_18 (by decide) (fun k4 => ?_) (fun k4 => ?_)
    · have h := h.1 k4
      refine x_iconst dX11_seenWhy_26 ?_
      exact x_iret h ⟨by decide, by decide⟩ rfl dX11_seenWhy_27
    · have h := h.2 k4
      refine x_bipush dX11_seenWhy_21 (by decide) ?_
      refine x_goto (tgt := 27) dX11_seenWhy_23 (by decide) ?_
      exact x_iret h ⟨by decide, by decide⟩ rfl dX11_seenWhy_27
  · have h := h.2 k2
    refine x_iconst dX11_seenWhy_7 ?_
    refine x_goto (tgt := 27) dX11_seenWhy_8 (by decide) ?_
    exact x_iret h ⟨by decide, by decide⟩ rfl dX11_seenWhy_27
set_option maxRecDepth 100000 in
set_option maxHeartbeats 4000000 in
theorem xX11_wrong_ (x : xX)  (μ : xM) (Q : Int → xM → Prop)  (h : tX11_wrong_  μ Q) : xMet x 3 yX11_wrong_ cX11_wrong_ 2 (some .int) [.ref (x.2.2.1 + 260)] μ (xQi x Q) := by
  refine xMet_of (by decide +kernel) (Nat.le_of_ble_eq_true rfl) ?_
  show xW x (xRm 3, RX11, cX11_wrong_, 2, (some .int), fun _ _ => True) (xQi x Q) 0 [(0, .ref (x.2.2.1 + 260))] [] μ
  refine x_ran (fun n0 => ?_)
  have h := h n0 
  refine x_aload_n 0 rfl dX11_wrong__0 ?_
  refine x_callVv (As := []) (rest := []) cal_X11_good ins_X11_good sel_X11_good ly260 (by decide) rfl (xX11_good x  _ _  h) rfl ml_X11_155 (xRoom (Nat.le_of_ble_eq_true rfl)) (Nat.le_of_ble_eq_true rfl) dX11_wrong__1 (fun μ1 n2 h => ?_)
  have h := h n2
  refine x_aload_n 0 rfl dX11_wrong__4 ?_
  refine x_callVi (As := []) (rest := []) cal_X11_seenWhy ins_X11_seenWhy sel_X11_seenWhy ly260 (by decide) rfl (xX11_seenWhy x  _ _  h) rfl ml_X11_379 (xRoom (Nat.le_of_ble_eq_true rfl)) (Nat.le_of_ble_eq_true rfl) dX11_wrong__5 (fun r5 μ3 i6 n4 h => ?_)
  have h := h i6 n4
  refine x_istore_n [(1, iV r5), (0, .ref (x.2.2.1 + 260))] dX11_wrong__8 (show 1 < 2 by decide) rfl ?_
  refine x_iload_n 0 rfl dX11_wrong__9 ?_
  refine x_ifeq (tgt := 21) i6  dX11_wrong__10 (by decide) (fun k7 => ?_) (fun k7 => ?_)
  · have h := h.1 k7
    refine x_aload_n 1 rfl dX11_wrong__21 ?_
    refine x_callVi (As := []) (rest := []) cal_X11_firstWrong ins_X11_firstWrong sel_X11_firstWrong ly260 (by decide) rfl (xX11_firstWrong x  _ _  h) rfl ml_X11_382 (xRoom (Nat.le_of_ble_eq_true rfl)) (Nat.le_of_ble_eq_true rfl) dX11_wrong__22 (fun r10 μ8 i11 n9 h => ?_)
    have h := h i11 n9
    exact x_iret h i11 rfl dX11_wrong__25
  · have h := h.2 k7
    refine x_aload_n 1 rfl dX11_wrong__13 ?_
    refine x_iload_n 0 rfl dX11_wrong__14 ?_
    refine x_callVi (As := [iV r5]) (rest := []) cal_X11_no ins_X11_no sel_X11_no ly260 (by decide) rfl (xX11_no x r5 _ _ i6 h) rfl ml_X11_158 (xRoom (Nat.le_of_ble_eq_true rfl)) (Nat.le_of_ble_eq_true rfl) dX11_wrong__15 (fun r14 μ12 i15 n13 h => ?_)
    have h := h i15 n13
    refine x_goto (tgt := 25) dX11_wrong__18 (by decide) ?_
    exact x_iret h i15 rfl dX11_wrong__25
set_option maxRecDepth 100000 in
set_option maxHeartbeats 4000000 in
theorem xX11_mayBeThose (x : xX) (p1 : Int) (μ : xM) (Q : Int → xM → Prop) (hp1 : xIn p1) (h : tX11_mayBeThose p1 μ Q) : xMet x 2 yX11_mayBeThose cX11_mayBeThose 9 (some .boolean) [.ref (x.2.2.1 + 260), iV p1] μ (xQz x Q) := by
  refine xMet_of (by decide +kernel) (Nat.le_of_ble_eq_true rfl) ?_
  show xW x (xRm 2, RX11, cX11_mayBeThose, 9, (some .boolean), fun _ _ => True) (xQz x Q) 0 [(0, .ref (x.2.2.1 + 260)), (1, iV p1)] [] μ
  refine x_ran (fun n0 => ?_)
  have h := h n0 hp1
  refine x_aload_n 0 rfl dX11_mayBeThose_0 ?_
  refine x_getR (j := 15) (r := 263) ly260 (by decide) rfl rfl (by decide) inT11 fl_X11_20 dX11_mayBeThose_1 ?_
  refine x_sipush dX11_mayBeThose_4 (by decide) ?_
  refine x_iald ly263 (by decide) (by decide) ⟨by decide, by decide⟩ (by decide) dX11_mayBeThose_7 (fun r1 => ?_)
  refine x_istore_n [(2, iV (μ 263 315)), (0, .ref (x.2.2.1 + 260)), (1, iV p1)] dX11_mayBeThose_8 (show 2 < 9 by decide) rfl ?_
  refine x_aload_n 1 rfl dX11_mayBeThose_9 ?_
  refine x_getR (j := 15) (r := 263) ly260 (by decide) rfl rfl (by decide) inT11 fl_X11_20 dX11_mayBeThose_10 ?_
  refine x_bipush dX11_mayBeThose_13 (by decide) ?_
  refine x_iload_n 0 rfl dX11_mayBeThose_15 ?_
  refine x_iadd dX11_mayBeThose_16 ?_
  obtain ⟨c2, h⟩ := h
  refine x_iald ly263 c2.1 c2.2 (xIb (n := 322) c2 (by decide)) (by decide) dX11_mayBeThose_17 (fun r3 => ?_)
  refine x_istore_n [(3, iV (μ 263 ((7 + (μ 263 315)).toNat))), (2, iV (μ 263 315)), (0, .ref (x.2.2.1 + 260)), (1, iV p1)] dX11_mayBeThose_18 (show 3 < 9 by decide) rfl ?_
  refine x_iconst dX11_mayBeThose_19 ?_
  refine x_istore [(4, iV 0), (3, iV (μ 263 ((7 + (μ 263 315)).toNat))), (2, iV (μ 263 315)), (0, .ref (x.2.2.1 + 260)), (1, iV p1)] dX11_mayBeThose_20 (show 4 < 9 by decide) rfl ?_
  refine x_sub [3, 4, 2, 1, 0] rfl ?_
  refine x_loop1 (fun l4_4 => [(0, .ref (x.2.2.1 + 260)), (1, iV p1), (2, iV (μ 263 315)), (3, iV (μ 263 ((7 + (μ 263 315)).toNat))), (4, iV l4_4)]) h (fun J22 l4_4 μ5 hJ22 h n6 => ?_)
  refine x_iload 4 rfl dX11_mayBeThose_22 ?_
  refine x_bipush dX11_mayBeThose_24 (by decide) ?_
  obtain ⟨c7, h⟩ := h
  refine x_icmpge (tgt := 43) c7 ⟨by decide, by decide⟩ dX11_mayBeThose_26 (by decide) (fun k8 => ?_) (fun k8 => ?_)
  · have h := h.1 k8
    refine x_iconst dX11_mayBeThose_43 ?_
    refine x_istore [(4, iV 0), (0, .ref (x.2.2.1 + 260)), (1, iV p1), (2, iV (μ 263 315)), (3, iV (μ 263 ((7 + (μ 263 315)).toNat)))] dX11_mayBeThose_44 (show 4 < 9 by decide) rfl ?_
    refine x_sub [1, 2, 3, 4, 0] rfl ?_
    refine x_loop1 (fun l4_9 => [(0, .ref (x.2.2.1 + 260)), (1, iV p1), (2, iV (μ 263 315)), (3, iV (μ 263 ((7 + (μ 263 315)).toNat))), (4, iV l4_9)]) h (fun J46 l4_9 μ10 hJ46 h n11 => ?_)
    refine x_iload 4 rfl dX11_mayBeThose_46 ?_
    refine x_iload_n 3 rfl dX11_mayBeThose_48 ?_
    obtain ⟨c12, h⟩ := h
    refine x_icmpge (tgt := 74) c12 r3 dX11_mayBeThose_49 (by decide) (fun k13 => ?_) (fun k13 => ?_)
    · have h := h.1 k13
      refine x_iconst dX11_mayBeThose_74 ?_
      refine x_istore [(4, iV 0), (0, .ref (x.2.2.1 + 260)), (1, iV p1), (2, iV (μ 263 315)), (3, iV (μ 263 ((7 + (μ 263 315)).toNat)))] dX11_mayBeThose_75 (show 4 < 9 by decide) rfl ?_
      refine x_iload_n 4 rfl dX11_mayBeThose_77 ?_
      refine x_aload_n 1 rfl dX11_mayBeThose_78 ?_
      refine x_getR (j := 15) (r := 263) ly260 (by decide) rfl rfl (by decide) inT11 fl_X11_20 dX11_mayBeThose_79 ?_
      refine x_bipush dX11_mayBeThose_82 (by decide) ?_
      refine x_iald ly263 (by decide) (by decide) ⟨by decide, by decide⟩ (by decide) dX11_mayBeThose_84 (fun r14 => ?_)
      refine x_iadd dX11_mayBeThose_85 ?_
      refine x_iconst dX11_mayBeThose_86 ?_
      refine x_isub dX11_mayBeThose_87 ?_
      refine x_istore [(5, iV (((μ 263 ((7 + (μ 263 315)).toNat)) + (μ10 263 6)) - 1)), (4, iV 0), (0, .ref (x.2.2.1 + 260)), (1, iV p1), (2, iV (μ 263 315)), (3, iV (μ 263 ((7 + (μ 263 315)).toNat)))] dX11_mayBeThose_88 (show 5 < 9 by decide) rfl ?_
      refine x_iconst dX11_mayBeThose_90 ?_
      refine x_istore [(6, iV 0), (5, iV (((μ 263 ((7 + (μ 263 315)).toNat)) + (μ10 263 6)) - 1)), (4, iV 0), (0, .ref (x.2.2.1 + 260)), (1, iV p1), (2, iV (μ 263 315)), (3, iV (μ 263 ((7 + (μ 263 315)).toNat)))] dX11_mayBeThose_91 (show 6 < 9 by decide) rfl ?_
      refine x_sub [3, 4, 6, 2, 1, 0] rfl ?_
      refine x_loop2 (fun l4_15 l6_16 => [(0, .ref (x.2.2.1 + 260)), (1, iV p1), (3, iV (μ 263 ((7 + (μ 263 315)).toNat))), (4, iV l4_15), (5, iV (((μ 263 ((7 + (μ 263 315)).toNat)) + (μ10 263 6)) - 1)), (6, iV l6_16)]) h (fun J93 l4_15 l6_16 μ17 hJ93 h n18 => ?_)
      refine x_iload 5 rfl dX11_mayBeThose_93 ?_
      refine x_aload_n 0 rfl dX11_mayBeThose_95 ?_
      refine x_getR (j := 15) (r := 263) ly260 (by decide) rfl rfl (by decide) inT11 fl_X11_20 dX11_mayBeThose_96 ?_
      refine x_iconst dX11_mayBeThose_99 ?_
      refine x_iald ly263 (by decide) (by decide) ⟨by decide, by decide⟩ (by decide) dX11_mayBeThose_100 (fun r19 => ?_)
      obtain ⟨c20, h⟩ := h
      refine x_icmpge (tgt := 224) c20 r19 dX11_mayBeThose_101 (by decide) (fun k21 => ?_) (fun k21 => ?_)
      · have h := h.1 k21
        refine x_iload 3 rfl dX11_mayBeThose_224 ?_
        refine x_iload 4 rfl dX11_mayBeThose_226 ?_
        obtain ⟨c22, h⟩ := h
        obtain ⟨c23, h⟩ := h
        refine x_icmpne (tgt := 235) c22 c23 dX11_mayBeThose_228 (by decide) (fun k24 => ?_) (fun k24 => ?_)
        · have h := h.1 k24
          refine x_iconst dX11_mayBeThose_235 ?_
          exact x_zret h (Or.inl rfl) rfl dX11_mayBeThose_236
        · have h := h.2 k24
          refine x_iconst dX11_mayBeThose_231 ?_
          refine x_goto (tgt := 236) dX11_mayBeThose_232 (by decide) ?_
          exact x_zret h (Or.inr rfl) rfl dX11_mayBeThose_236
      · have h := h.2 k21
        refine x_iload_n 1 rfl dX11_mayBeThose_104 ?_
        refine x_iload 5 rfl dX11_mayBeThose_105 ?_
        refine x_ishr dX11_mayBeThose_107 ?_
        refine x_iconst dX11_mayBeThose_108 ?_
        refine x_iand dX11_mayBeThose_109 ?_
        refine x_ifne (tgt := 116) (xAnd_in _ _)  dX11_mayBeThose_110 (by decide) (fun k25 => ?_) (fun k25 => ?_)
        · have h := h.1 k25
          refine x_iload 3 rfl dX11_mayBeThose_116 ?_
          refine x_iload 4 rfl dX11_mayBeThose_118 ?_
          obtain ⟨c26, h⟩ := h
          obtain ⟨c27, h⟩ := h
          refine x_icmpne (tgt := 125) c26 c27 dX11_mayBeThose_120 (by decide) (fun k28 => ?_) (fun k28 => ?_)
          · have h := h.1 k28
            refine x_aload_n 0 rfl dX11_mayBeThose_125 ?_
            refine x_getR (j := 15) (r := 263) ly260 (by decide) rfl rfl (by decide) inT11 fl_X11_20 dX11_mayBeThose_126 ?_
            refine x_sipush dX11_mayBeThose_129 (by decide) ?_
            refine x_iload 5 rfl dX11_mayBeThose_132 ?_
            refine x_iadd dX11_mayBeThose_134 ?_
            obtain ⟨c29, h⟩ := h
            refine x_iald ly263 c29.1 c29.2 (xIb (n := 322) c29 (by decide)) (by decide) dX11_mayBeThose_135 (fun r30 => ?_)
            refine x_istore [(7, iV (μ17 263 ((295 + l6_16).toNat))), (0, .ref (x.2.2.1 + 260)), (1, iV p1), (3, iV (μ 263 ((7 + (μ 263 315)).toNat))), (4, iV l4_15), (5, iV (((μ 263 ((7 + (μ 263 315)).toNat)) + (μ10 263 6)) - 1)), (6, iV l6_16)] dX11_mayBeThose_136 (show 7 < 9 by decide) rfl ?_
            refine x_iload 4 rfl dX11_mayBeThose_138 ?_
            refine x_iload_n 3 rfl dX11_mayBeThose_140 ?_
            refine x_icmpge (tgt := 167) c26 r3 dX11_mayBeThose_141 (by decide) (fun k31 => ?_) (fun k31 => ?_)
            · have h := h.1 k31
              refine x_iload 4 rfl dX11_mayBeThose_167 ?_
              refine x_iload_n 3 rfl dX11_mayBeThose_169 ?_
              refine x_isub dX11_mayBeThose_170 ?_
              refine x_iconst dX11_mayBeThose_171 ?_
              refine x_iadd dX11_mayBeThose_172 ?_
              refine x_istore [(8, iV ((l4_15 - (μ 263 ((7 + (μ 263 315)).toNat))) + 1)), (7, iV (μ17 263 ((295 + l6_16).toNat))), (0, .ref (x.2.2.1 + 260)), (1, iV p1), (3, iV (μ 263 ((7 + (μ 263 315)).toNat))), (4, iV l4_15), (5, iV (((μ 263 ((7 + (μ 263 315)).toNat)) + (μ10 263 6)) - 1)), (6, iV l6_16)] dX11_mayBeThose_173 (show 8 < 9 by decide) rfl ?_
              refine x_aload_n 2 rfl dX11_mayBeThose_175 ?_
              refine x_getR (j := 20) (r := 267) ly260 (by decide) rfl rfl (by decide) inT11 fl_X11_32 dX11_mayBeThose_176 ?_
              refine x_bipush dX11_mayBeThose_179 (by decide) ?_
              refine x_aload_n 2 rfl dX11_mayBeThose_181 ?_
              refine x_getR (j := 15) (r := 263) ly260 (by decide) rfl rfl (by decide) inT11 fl_X11_20 dX11_mayBeThose_182 ?_
              refine x_sipush dX11_mayBeThose_185 (by decide) ?_
              refine x_iload 0 rfl dX11_mayBeThose_188 ?_
              refine x_iadd dX11_mayBeThose_190 ?_
              refine x_iconst dX11_mayBeThose_191 ?_
              refine x_isub dX11_mayBeThose_192 ?_
              obtain ⟨c32, h⟩ := h
              refine x_iald ly263 c32.1 c32.2 (xIb (n := 322) c32 (by decide)) (by decide) dX11_mayBeThose_193 (fun r33 => ?_)
              refine x_imul dX11_mayBeThose_194 ?_
              refine x_aload_n 2 rfl dX11_mayBeThose_195 ?_
              refine x_getR (j := 15) (r := 263) ly260 (by decide) rfl rfl (by decide) inT11 fl_X11_20 dX11_mayBeThose_196 ?_
              refine x_sipush dX11_mayBeThose_199 (by decide) ?_
              refine x_iload 0 rfl dX11_mayBeThose_202 ?_
              refine x_iadd dX11_mayBeThose_204 ?_
              obtain ⟨c34, h⟩ := h
              refine x_iald ly263 c34.1 c34.2 (xIb (n := 322) c34 (by decide)) (by decide) dX11_mayBeThose_205 (fun r35 => ?_)
              refine x_iadd dX11_mayBeThose_206 ?_
              obtain ⟨c36, h⟩ := h
              refine x_iald ly267 c36.1 c36.2 (xIb (n := 600) c36 (by decide)) (by decide) dX11_mayBeThose_207 (fun r37 => ?_)
              refine x_iload 1 rfl dX11_mayBeThose_208 ?_
              refine x_icmpeq (tgt := 215) r37 r30 dX11_mayBeThose_210 (by decide) (fun k38 => ?_) (fun k38 => ?_)
              · have h := h.1 k38
                refine x_iinc 5 rfl [(4, iV (l4_15 + 1)), (8, iV ((l4_15 - (μ 263 ((7 + (μ 263 315)).toNat))) + 1)), (7, iV (μ17 263 ((295 + l6_16).toNat))), (0, .ref (x.2.2.1 + 260)), (1, iV p1), (3, iV (μ 263 ((7 + (μ 263 315)).toNat))), (5, iV (((μ 263 ((7 + (μ 263 315)).toNat)) + (μ10 263 6)) - 1)), (6, iV l6_16)] dX11_mayBeThose_215 (show 4 < 9 by decide) rfl ?_
                refine x_iinc 7 rfl [(6, iV (l6_16 + 1)), (4, iV (l4_15 + 1)), (8, iV ((l4_15 - (μ 263 ((7 + (μ 263 315)).toNat))) + 1)), (7, iV (μ17 263 ((295 + l6_16).toNat))), (0, .ref (x.2.2.1 + 260)), (1, iV p1), (3, iV (μ 263 ((7 + (μ 263 315)).toNat))), (5, iV (((μ 263 ((7 + (μ 263 315)).toNat)) + (μ10 263 6)) - 1))] dX11_mayBeThose_218 (show 6 < 9 by decide) rfl ?_
                refine x_goto (tgt := 93) dX11_mayBeThose_221 (by decide) ?_
                exact x_sub [4, 5, 6, 1, 7, 0] rfl (hJ93 _ _ _ h)
              · have h := h.2 k38
                refine x_iconst dX11_mayBeThose_213 ?_
                exact x_zret h (Or.inl rfl) rfl dX11_mayBeThose_214
            · have h := h.2 k31
              refine x_aload_n 1 rfl dX11_mayBeThose_144 ?_
              refine x_getR (j := 26) (r := 273) ly260 (by decide) rfl rfl (by decide) inT11 fl_X11_50 dX11_mayBeThose_145 ?_
              refine x_iload 0 rfl dX11_mayBeThose_148 ?_
              refine x_dup2 rfl rfl dX11_mayBeThose_150 ?_
              obtain ⟨c39, h⟩ := h
              refine x_iald ly273 c39.1 c39.2 r30 (by decide) dX11_mayBeThose_151 (fun r40 => ?_)
              refine x_iconst dX11_mayBeThose_152 ?_
              refine x_isub dX11_mayBeThose_153 ?_
              obtain ⟨c41, h⟩ := h
              refine x_iast ly273 c39.1 c39.2 r30 c41 (by decide) dX11_mayBeThose_154 (fun μ42 e44 n43 => ?_)
              have h := h μ42 e44 n43
              refine x_aload_n 1 rfl dX11_mayBeThose_155 ?_
              refine x_getR (j := 26) (r := 273) ly260 (by decide) rfl rfl (by decide) inT11 fl_X11_50 dX11_mayBeThose_156 ?_
              refine x_iload 0 rfl dX11_mayBeThose_159 ?_
              refine x_iald ly273 c39.1 c39.2 r30 (by decide) dX11_mayBeThose_161 (fun r45 => ?_)
              refine x_ifge (tgt := 215) r45  dX11_mayBeThose_162 (by decide) (fun k46 => ?_) (fun k46 => ?_)
              · have h := h.1 k46
                refine x_iinc 4 rfl [(4, iV (l4_15 + 1)), (7, iV (μ17 263 ((295 + l6_16).toNat))), (0, .ref (x.2.2.1 + 260)), (1, iV p1), (3, iV (μ 263 ((7 + (μ 263 315)).toNat))), (5, iV (((μ 263 ((7 + (μ 263 315)).toNat)) + (μ10 263 6)) - 1)), (6, iV l6_16)] dX11_mayBeThose_215 (show 4 < 9 by decide) rfl ?_
                refine x_iinc 6 rfl [(6, iV (l6_16 + 1)), (4, iV (l4_15 + 1)), (7, iV (μ17 263 ((295 + l6_16).toNat))), (0, .ref (x.2.2.1 + 260)), (1, iV p1), (3, iV (μ 263 ((7 + (μ 263 315)).toNat))), (5, iV (((μ 263 ((7 + (μ 263 315)).toNat)) + (μ10 263 6)) - 1))] dX11_mayBeThose_218 (show 6 < 9 by decide) rfl ?_
                refine x_goto (tgt := 93) dX11_mayBeThose_221 (by decide) ?_
                exact x_sub [3, 4, 5, 1, 6, 0] rfl (hJ93 _ _ _ h)
              · have h := h.2 k46
                refine x_iconst dX11_mayBeThose_165 ?_
                exact x_zret h (Or.inl rfl) rfl dX11_mayBeThose_166
          · have h := h.2 k28
            refine x_iconst dX11_mayBeThose_123 ?_
            exact x_zret h (Or.inl rfl) rfl dX11_mayBeThose_124
        · have h := h.2 k25
          refine x_goto (tgt := 218) dX11_mayBeThose_113 (by decide) ?_
          refine x_iinc 5 rfl [(6, iV (l6_16 + 1)), (0, .ref (x.2.2.1 + 260)), (1, iV p1), (3, iV (μ 263 ((7 + (μ 263 315)).toNat))), (4, iV l4_15), (5, iV (((μ 263 ((7 + (μ 263 315)).toNat)) + (μ10 263 6)) - 1))] dX11_mayBeThose_218 (show 6 < 9 by decide) rfl ?_
          refine x_goto (tgt := 93) dX11_mayBeThose_221 (by decide) ?_
          exact x_sub [1, 2, 3, 4, 5, 0] rfl (hJ93 _ _ _ h)
    · have h := h.2 k13
      refine x_aload_n 0 rfl dX11_mayBeThose_52 ?_
      refine x_getR (j := 26) (r := 273) ly260 (by decide) rfl rfl (by decide) inT11 fl_X11_50 dX11_mayBeThose_53 ?_
      refine x_aload_n 0 rfl dX11_mayBeThose_56 ?_
      refine x_iload_n 2 rfl dX11_mayBeThose_57 ?_
      refine x_iload 4 rfl dX11_mayBeThose_58 ?_
      refine x_callVi (As := [iV (μ 263 315), iV l4_9]) (rest := [.ref (x.2.2.1 + 273)]) cal_X11_letterAt ins_X11_letterAt sel_X11_letterAt ly260 (by decide) rfl (xX11_letterAt x (μ 263 315) l4_9 _ _ r1 c12 h) rfl ml_X11_243 (xRoom (Nat.le_of_ble_eq_true rfl)) (Nat.le_of_ble_eq_true rfl) dX11_mayBeThose_60 (fun r49 μ47 i50 n48 h => ?_)
      have h := h i50 n48
      refine x_dup2 rfl rfl dX11_mayBeThose_63 ?_
      obtain ⟨c51, h⟩ := h
      refine x_iald ly273 c51.1 c51.2 i50 (by decide) dX11_mayBeThose_64 (fun r52 => ?_)
      refine x_iconst dX11_mayBeThose_65 ?_
      refine x_iadd dX11_mayBeThose_66 ?_
      obtain ⟨c53, h⟩ := h
      refine x_iast ly273 c51.1 c51.2 i50 c53 (by decide) dX11_mayBeThose_67 (fun μ54 e56 n55 => ?_)
      have h := h μ54 e56 n55
      refine x_iinc 4 rfl [(4, iV (l4_9 + 1)), (0, .ref (x.2.2.1 + 260)), (1, iV p1), (2, iV (μ 263 315)), (3, iV (μ 263 ((7 + (μ 263 315)).toNat)))] dX11_mayBeThose_68 (show 4 < 9 by decide) rfl ?_
      refine x_goto (tgt := 46) dX11_mayBeThose_71 (by decide) ?_
      exact x_sub [1, 2, 3, 4, 0] rfl (hJ46 _ _ h)
  · have h := h.2 k8
    refine x_aload_n 0 rfl dX11_mayBeThose_29 ?_
    refine x_getR (j := 26) (r := 273) ly260 (by decide) rfl rfl (by decide) inT11 fl_X11_50 dX11_mayBeThose_30 ?_
    refine x_iload 4 rfl dX11_mayBeThose_33 ?_
    refine x_iconst dX11_mayBeThose_35 ?_
    obtain ⟨c57, h⟩ := h
    refine x_iast ly273 c57.1 c57.2 (xIb (n := 26) c57 (by decide)) ⟨by decide, by decide⟩ (by decide) dX11_mayBeThose_36 (fun μ58 e60 n59 => ?_)
    have h := h μ58 e60 n59
    refine x_iinc 4 rfl [(4, iV (l4_4 + 1)), (0, .ref (x.2.2.1 + 260)), (1, iV p1), (2, iV (μ 263 315)), (3, iV (μ 263 ((7 + (μ 263 315)).toNat)))] dX11_mayBeThose_37 (show 4 < 9 by decide) rfl ?_
    refine x_goto (tgt := 22) dX11_mayBeThose_40 (by decide) ?_
    exact x_sub [1, 2, 3, 4, 0] rfl (hJ22 _ _ h)
set_option maxRecDepth 100000 in
set_option maxHeartbeats 4000000 in
theorem xX11_waysWith (x : xX) (p1 : Int) (μ : xM) (Q : Int → xM → Prop) (hp1 : xIn p1) (h : tX11_waysWith p1 μ Q) : xMet x 3 yX11_waysWith cX11_waysWith 4 (some .int) [.ref (x.2.2.1 + 260), iV p1] μ (xQi x Q) := by
  refine xMet_of (by decide +kernel) (Nat.le_of_ble_eq_true rfl) ?_
  show xW x (xRm 3, RX11, cX11_waysWith, 4, (some .int), fun _ _ => True) (xQi x Q) 0 [(0, .ref (x.2.2.1 + 260)), (1, iV p1)] [] μ
  refine x_ran (fun n0 => ?_)
  have h := h n0 hp1
  refine x_aload_n 0 rfl dX11_waysWith_0 ?_
  refine x_callVi (As := []) (rest := []) cal_X11_firstWrong ins_X11_firstWrong sel_X11_firstWrong ly260 (by decide) rfl (xX11_firstWrong x  _ _  h) rfl ml_X11_382 (xRoom (Nat.le_of_ble_eq_true rfl)) (Nat.le_of_ble_eq_true rfl) dX11_waysWith_1 (fun r3 μ1 i4 n2 h => ?_)
  have h := h i4 n2
  refine x_bipush dX11_waysWith_4 (by decide) ?_
  refine x_icmpeq (tgt := 11) i4 ⟨by decide, by decide⟩ dX11_waysWith_6 (by decide) (fun k5 => ?_) (fun k5 => ?_)
  · have h := h.1 k5
    refine x_iconst dX11_waysWith_11 ?_
    refine x_istore_n [(2, iV 0), (0, .ref (x.2.2.1 + 260)), (1, iV p1)] dX11_waysWith_12 (show 2 < 4 by decide) rfl ?_
    refine x_iconst dX11_waysWith_13 ?_
    refine x_istore_n [(3, iV 0), (2, iV 0), (0, .ref (x.2.2.1 + 260)), (1, iV p1)] dX11_waysWith_14 (show 3 < 4 by decide) rfl ?_
    refine x_sub [2, 3, 1, 0] rfl ?_
    refine x_loop2 (fun l2_6 l3_7 => [(0, .ref (x.2.2.1 + 260)), (1, iV p1), (2, iV l2_6), (3, iV l3_7)]) h (fun J15 l2_6 l3_7 μ8 hJ15 h n9 => ?_)
    refine x_iload_n 3 rfl dX11_waysWith_15 ?_
    refine x_iconst dX11_waysWith_16 ?_
    refine x_aload_n 0 rfl dX11_waysWith_17 ?_
    refine x_getR (j := 15) (r := 263) ly260 (by decide) rfl rfl (by decide) inT11 fl_X11_20 dX11_waysWith_18 ?_
    refine x_iconst dX11_waysWith_21 ?_
    refine x_iald ly263 (by decide) (by decide) ⟨by decide, by decide⟩ (by decide) dX11_waysWith_22 (fun r10 => ?_)
    refine x_ishl dX11_waysWith_23 ?_
    obtain ⟨c11, h⟩ := h
    refine x_icmpge (tgt := 62) c11 (xShl_in _ _) dX11_waysWith_24 (by decide) (fun k12 => ?_) (fun k12 => ?_)
    · have h := h.1 k12
      refine x_iload_n 2 rfl dX11_waysWith_62 ?_
      obtain ⟨c13, h⟩ := h
      exact x_iret h c13 rfl dX11_waysWith_63
    · have h := h.2 k12
      refine x_iload_n 2 rfl dX11_waysWith_27 ?_
      refine x_iload_n 1 rfl dX11_waysWith_28 ?_
      refine x_iflt (tgt := 41) hp1  dX11_waysWith_29 (by decide) (fun k14 => ?_) (fun k14 => ?_)
      · have h := h.1 k14
        refine x_aload_n 0 rfl dX11_waysWith_41 ?_
        refine x_iload_n 3 rfl dX11_waysWith_42 ?_
        refine x_callVz (As := [iV l3_7]) (rest := [iV l2_6]) cal_X11_mayBeThose ins_X11_mayBeThose sel_X11_mayBeThose ly260 (by decide) rfl (xX11_mayBeThose x l3_7 _ _ c11 h) rfl ml_X11_385 (xRoom (Nat.le_of_ble_eq_true rfl)) (Nat.le_of_ble_eq_true rfl) dX11_waysWith_43 (fun r17 μ15 i18 n16 h => ?_)
        have h := h i18 n16
        refine x_ifeq (tgt := 53) (xIz i18)  dX11_waysWith_46 (by decide) (fun k19 => ?_) (fun k19 => ?_)
        · have h := h.1 k19
          refine x_iconst dX11_waysWith_53 ?_
          refine x_iadd dX11_waysWith_54 ?_
          refine x_istore_n [(2, iV (l2_6 + 0)), (0, .ref (x.2.2.1 + 260)), (1, iV p1), (3, iV l3_7)] dX11_waysWith_55 (show 2 < 4 by decide) rfl ?_
          refine x_iinc 3 rfl [(3, iV (l3_7 + 1)), (2, iV (l2_6 + 0)), (0, .ref (x.2.2.1 + 260)), (1, iV p1)] dX11_waysWith_56 (show 3 < 4 by decide) rfl ?_
          refine x_goto (tgt := 15) dX11_waysWith_59 (by decide) ?_
          exact x_sub [2, 3, 1, 0] rfl (hJ15 _ _ _ h)
        · have h := h.2 (xz1 i18 k19)
          refine x_iconst dX11_waysWith_49 ?_
          refine x_goto (tgt := 54) dX11_waysWith_50 (by decide) ?_
          refine x_iadd dX11_waysWith_54 ?_
          refine x_istore_n [(2, iV (l2_6 + 1)), (0, .ref (x.2.2.1 + 260)), (1, iV p1), (3, iV l3_7)] dX11_waysWith_55 (show 2 < 4 by decide) rfl ?_
          refine x_iinc 3 rfl [(3, iV (l3_7 + 1)), (2, iV (l2_6 + 1)), (0, .ref (x.2.2.1 + 260)), (1, iV p1)] dX11_waysWith_56 (show 3 < 4 by decide) rfl ?_
          refine x_goto (tgt := 15) dX11_waysWith_59 (by decide) ?_
          exact x_sub [2, 3, 1, 0] rfl (hJ15 _ _ _ h)
      · have h := h.2 k14
        refine x_iload_n 3 rfl dX11_waysWith_32 ?_
        refine x_iload_n 1 rfl dX11_waysWith_33 ?_
        refine x_ishr dX11_waysWith_34 ?_
        refine x_iconst dX11_waysWith_35 ?_
        refine x_iand dX11_waysWith_36 ?_
        refine x_iconst dX11_waysWith_37 ?_
        refine x_icmpne (tgt := 53) (xAnd_in _ _) ⟨by decide, by decide⟩ dX11_waysWith_38 (by decide) (fun k20 => ?_) (fun k20 => ?_)
        · have h := h.1 k20
          refine x_iconst dX11_waysWith_53 ?_
          refine x_iadd dX11_waysWith_54 ?_
          refine x_istore_n [(2, iV (l2_6 + 0)), (0, .ref (x.2.2.1 + 260)), (1, iV p1), (3, iV l3_7)] dX11_waysWith_55 (show 2 < 4 by decide) rfl ?_
          refine x_iinc 3 rfl [(3, iV (l3_7 + 1)), (2, iV (l2_6 + 0)), (0, .ref (x.2.2.1 + 260)), (1, iV p1)] dX11_waysWith_56 (show 3 < 4 by decide) rfl ?_
          refine x_goto (tgt := 15) dX11_waysWith_59 (by decide) ?_
          exact x_sub [2, 3, 1, 0] rfl (hJ15 _ _ _ h)
        · have h := h.2 k20
          refine x_aload_n 0 rfl dX11_waysWith_41 ?_
          refine x_iload_n 3 rfl dX11_waysWith_42 ?_
          refine x_callVz (As := [iV l3_7]) (rest := [iV l2_6]) cal_X11_mayBeThose ins_X11_mayBeThose sel_X11_mayBeThose ly260 (by decide) rfl (xX11_mayBeThose x l3_7 _ _ c11 h) rfl ml_X11_385 (xRoom (Nat.le_of_ble_eq_true rfl)) (Nat.le_of_ble_eq_true rfl) dX11_waysWith_43 (fun r23 μ21 i24 n22 h => ?_)
          have h := h i24 n22
          refine x_ifeq (tgt := 53) (xIz i24)  dX11_waysWith_46 (by decide) (fun k25 => ?_) (fun k25 => ?_)
          · have h := h.1 k25
            refine x_iconst dX11_waysWith_53 ?_
            refine x_iadd dX11_waysWith_54 ?_
            refine x_istore_n [(2, iV (l2_6 + 0)), (0, .ref (x.2.2.1 + 260)), (1, iV p1), (3, iV l3_7)] dX11_waysWith_55 (show 2 < 4 by decide) rfl ?_
            refine x_iinc 3 rfl [(3, iV (l3_7 + 1)), (2, iV (l2_6 + 0)), (0, .ref (x.2.2.1 + 260)), (1, iV p1)] dX11_waysWith_56 (show 3 < 4 by decide) rfl ?_
            refine x_goto (tgt := 15) dX11_waysWith_59 (by decide) ?_
            exact x_sub [2, 3, 1, 0] rfl (hJ15 _ _ _ h)
          · have h := h.2 (xz1 i24 k25)
            refine x_iconst dX11_waysWith_49 ?_
            refine x_goto (tgt := 54) dX11_waysWith_50 (by decide) ?_
            refine x_iadd dX11_waysWith_54 ?_
            refine x_istore_n [(2, iV (l2_6 + 1)), (0, .ref (x.2.2.1 + 260)), (1, iV p1), (3, iV l3_7)] dX11_waysWith_55 (show 2 < 4 by decide) rfl ?_
            refine x_iinc 3 rfl [(3, iV (l3_7 + 1)), (2, iV (l2_6 + 1)), (0, .ref (x.2.2.1 + 260)), (1, iV p1)] dX11_waysWith_56 (show 3 < 4 by decide) rfl ?_
            refine x_goto (tgt := 15) dX11_waysWith_59 (by decide) ?_
            exact x_sub [2, 3, 1, 0] rfl (hJ15 _ _ _ h)
  · have h := h.2 k5
    refine x_iconst dX11_waysWith_9 ?_
    exact x_iret h ⟨by decide, by decide⟩ rfl dX11_waysWith_10
set_option maxRecDepth 100000 in
set_option maxHeartbeats 4000000 in
theorem xX11_ways (x : xX)  (μ : xM) (Q : Int → xM → Prop)  (h : tX11_ways  μ Q) : xMet x 4 yX11_ways cX11_ways 2 (some .int) [.ref (x.2.2.1 + 260)] μ (xQi x Q) := by
  refine xMet_of (by decide +kernel) (Nat.le_of_ble_eq_true rfl) ?_
  show xW x (xRm 4, RX11, cX11_ways, 2, (some .int), fun _ _ => True) (xQi x Q) 0 [(0, .ref (x.2.2.1 + 260))] [] μ
  refine x_ran (fun n0 => ?_)
  have h := h n0 
  refine x_aload_n 0 rfl dX11_ways_0 ?_
  refine x_callVv (As := []) (rest := []) cal_X11_good ins_X11_good sel_X11_good ly260 (by decide) rfl (xX11_good x  _ _  h) rfl ml_X11_155 (xRoom (Nat.le_of_ble_eq_true rfl)) (Nat.le_of_ble_eq_true rfl) dX11_ways_1 (fun μ1 n2 h => ?_)
  have h := h n2
  refine x_aload_n 0 rfl dX11_ways_4 ?_
  refine x_callVi (As := []) (rest := []) cal_X11_seenWhy ins_X11_seenWhy sel_X11_seenWhy ly260 (by decide) rfl (xX11_seenWhy x  _ _  h) rfl ml_X11_379 (xRoom (Nat.le_of_ble_eq_true rfl)) (Nat.le_of_ble_eq_true rfl) dX11_ways_5 (fun r5 μ3 i6 n4 h => ?_)
  have h := h i6 n4
  refine x_istore_n [(1, iV r5), (0, .ref (x.2.2.1 + 260))] dX11_ways_8 (show 1 < 2 by decide) rfl ?_
  refine x_iload_n 0 rfl dX11_ways_9 ?_
  refine x_ifeq (tgt := 21) i6  dX11_ways_10 (by decide) (fun k7 => ?_) (fun k7 => ?_)
  · have h := h.1 k7
    refine x_aload_n 1 rfl dX11_ways_21 ?_
    refine x_iconst dX11_ways_22 ?_
    refine x_callVi (As := [iV (-1)]) (rest := []) cal_X11_waysWith ins_X11_waysWith sel_X11_waysWith ly260 (by decide) rfl (xX11_waysWith x (-1) _ _ ⟨by decide, by decide⟩ h) rfl ml_X11_388 (xRoom (Nat.le_of_ble_eq_true rfl)) (Nat.le_of_ble_eq_true rfl) dX11_ways_23 (fun r10 μ8 i11 n9 h => ?_)
    have h := h i11 n9
    exact x_iret h i11 rfl dX11_ways_26
  · have h := h.2 k7
    refine x_aload_n 1 rfl dX11_ways_13 ?_
    refine x_iload_n 0 rfl dX11_ways_14 ?_
    refine x_callVi (As := [iV r5]) (rest := []) cal_X11_no ins_X11_no sel_X11_no ly260 (by decide) rfl (xX11_no x r5 _ _ i6 h) rfl ml_X11_158 (xRoom (Nat.le_of_ble_eq_true rfl)) (Nat.le_of_ble_eq_true rfl) dX11_ways_15 (fun r14 μ12 i15 n13 h => ?_)
    have h := h i15 n13
    refine x_goto (tgt := 26) dX11_ways_18 (by decide) ?_
    exact x_iret h i15 rfl dX11_ways_26
set_option maxRecDepth 100000 in
set_option maxHeartbeats 4000000 in
theorem xX11_waysOf (x : xX) (p1 : Int) (μ : xM) (Q : Int → xM → Prop) (hp1 : xIn p1) (h : tX11_waysOf p1 μ Q) : xMet x 4 yX11_waysOf cX11_waysOf 3 (some .int) [.ref (x.2.2.1 + 260), iV p1] μ (xQi x Q) := by
  refine xMet_of (by decide +kernel) (Nat.le_of_ble_eq_true rfl) ?_
  show xW x (xRm 4, RX11, cX11_waysOf, 3, (some .int), fun _ _ => True) (xQi x Q) 0 [(0, .ref (x.2.2.1 + 260)), (1, iV p1)] [] μ
  refine x_ran (fun n0 => ?_)
  have h := h n0 hp1
  refine x_aload_n 0 rfl dX11_waysOf_0 ?_
  refine x_callVv (As := []) (rest := []) cal_X11_good ins_X11_good sel_X11_good ly260 (by decide) rfl (xX11_good x  _ _  h) rfl ml_X11_155 (xRoom (Nat.le_of_ble_eq_true rfl)) (Nat.le_of_ble_eq_true rfl) dX11_waysOf_1 (fun μ1 n2 h => ?_)
  have h := h n2
  refine x_aload_n 0 rfl dX11_waysOf_4 ?_
  refine x_iload_n 1 rfl dX11_waysOf_5 ?_
  refine x_callVz (As := [iV p1]) (rest := []) cal_X11_isGuest ins_X11_isGuest sel_X11_isGuest ly260 (by decide) rfl (xX11_isGuest x p1 _ _ hp1 h) rfl ml_X11_391 (xRoom (Nat.le_of_ble_eq_true rfl)) (Nat.le_of_ble_eq_true rfl) dX11_waysOf_6 (fun r5 μ3 i6 n4 h => ?_)
  have h := h i6 n4
  refine x_ifne (tgt := 18) (xIz i6)  dX11_waysOf_9 (by decide) (fun k7 => ?_) (fun k7 => ?_)
  · have h := h.1 (xz1 i6 k7)
    refine x_aload_n 0 rfl dX11_waysOf_18 ?_
    refine x_callVi (As := []) (rest := []) cal_X11_seenWhy ins_X11_seenWhy sel_X11_seenWhy ly260 (by decide) rfl (xX11_seenWhy x  _ _  h) rfl ml_X11_379 (xRoom (Nat.le_of_ble_eq_true rfl)) (Nat.le_of_ble_eq_true rfl) dX11_waysOf_19 (fun r10 μ8 i11 n9 h => ?_)
    have h := h i11 n9
    refine x_istore_n [(2, iV r10), (0, .ref (x.2.2.1 + 260)), (1, iV p1)] dX11_waysOf_22 (show 2 < 3 by decide) rfl ?_
    refine x_iload_n 0 rfl dX11_waysOf_23 ?_
    refine x_ifeq (tgt := 35) i11  dX11_waysOf_24 (by decide) (fun k12 => ?_) (fun k12 => ?_)
    · have h := h.1 k12
      refine x_aload_n 1 rfl dX11_waysOf_35 ?_
      refine x_iload_n 2 rfl dX11_waysOf_36 ?_
      refine x_callVi (As := [iV p1]) (rest := []) cal_X11_waysWith ins_X11_waysWith sel_X11_waysWith ly260 (by decide) rfl (xX11_waysWith x p1 _ _ hp1 h) rfl ml_X11_388 (xRoom (Nat.le_of_ble_eq_true rfl)) (Nat.le_of_ble_eq_true rfl) dX11_waysOf_37 (fun r15 μ13 i16 n14 h => ?_)
      have h := h i16 n14
      exact x_iret h i16 rfl dX11_waysOf_40
    · have h := h.2 k12
      refine x_aload_n 1 rfl dX11_waysOf_27 ?_
      refine x_iload_n 0 rfl dX11_waysOf_28 ?_
      refine x_callVi (As := [iV r10]) (rest := []) cal_X11_no ins_X11_no sel_X11_no ly260 (by decide) rfl (xX11_no x r10 _ _ i11 h) rfl ml_X11_158 (xRoom (Nat.le_of_ble_eq_true rfl)) (Nat.le_of_ble_eq_true rfl) dX11_waysOf_29 (fun r19 μ17 i20 n18 h => ?_)
      have h := h i20 n18
      refine x_goto (tgt := 40) dX11_waysOf_32 (by decide) ?_
      exact x_iret h i20 rfl dX11_waysOf_40
  · have h := h.2 k7
    refine x_aload_n 0 rfl dX11_waysOf_12 ?_
    refine x_iconst dX11_waysOf_13 ?_
    refine x_callVi (As := [iV 1]) (rest := []) cal_X11_no ins_X11_no sel_X11_no ly260 (by decide) rfl (xX11_no x 1 _ _ ⟨by decide, by decide⟩ h) rfl ml_X11_158 (xRoom (Nat.le_of_ble_eq_true rfl)) (Nat.le_of_ble_eq_true rfl) dX11_waysOf_14 (fun r23 μ21 i24 n22 h => ?_)
    have h := h i24 n22
    exact x_iret h i24 rfl dX11_waysOf_17
set_option maxRecDepth 100000 in
set_option maxHeartbeats 4000000 in
theorem xX11_did (x : xX)  (μ : xM) (Q : Int → xM → Prop)  (h : tX11_did  μ Q) : xMet x 5 yX11_did cX11_did 1 (some .boolean) [.ref (x.2.2.1 + 260)] μ (xQz x Q) := by
  refine xMet_of (by decide +kernel) (Nat.le_of_ble_eq_true rfl) ?_
  show xW x (xRm 5, RX11, cX11_did, 1, (some .boolean), fun _ _ => True) (xQz x Q) 0 [(0, .ref (x.2.2.1 + 260))] [] μ
  refine x_ran (fun n0 => ?_)
  have h := h n0 
  refine x_aload_n 0 rfl dX11_did_0 ?_
  refine x_callVv (As := []) (rest := []) cal_X11_layGrows ins_X11_layGrows sel_X11_layGrows ly260 (by decide) rfl (xX11_layGrows x  _ _  h) rfl ml_X11_167 (xRoom (Nat.le_of_ble_eq_true rfl)) (Nat.le_of_ble_eq_true rfl) dX11_did_1 (fun μ1 n2 h => ?_)
  have h := h n2
  refine x_aload_n 0 rfl dX11_did_4 ?_
  refine x_aload_n 0 rfl dX11_did_5 ?_
  refine x_getR (j := 17) (r := 265) ly260 (by decide) rfl rfl (by decide) inT11 fl_X11_26 dX11_did_6 ?_
  refine x_iconst dX11_did_9 ?_
  refine x_iald ly265 (by decide) (by decide) ⟨by decide, by decide⟩ (by decide) dX11_did_10 (fun r3 => ?_)
  refine x_callVv (As := [iV (μ1 265 3)]) (rest := []) cal_X11_begin ins_X11_begin sel_X11_begin ly260 (by decide) rfl (xX11_begin x (μ1 265 3) _ _ r3 h) rfl ml_X11_170 (xRoom (Nat.le_of_ble_eq_true rfl)) (Nat.le_of_ble_eq_true rfl) dX11_did_11 (fun μ4 n5 h => ?_)
  have h := h n5
  refine x_aload_n 0 rfl dX11_did_14 ?_
  refine x_iconst dX11_did_15 ?_
  refine x_putI (j := 19) ly260 (by decide) rfl rfl (by decide) inT11 fl_X11_174 tyX11 tyX11_ok nmX11 rfl ⟨by decide, by decide⟩ (by decide +kernel) dX11_did_16 (fun μ6 e8 n7 => ?_)
  have h := h μ6 e8 n7
  refine x_iconst dX11_did_19 ?_
  exact x_zret h (Or.inr rfl) rfl dX11_did_20
set_option maxRecDepth 100000 in
set_option maxHeartbeats 4000000 in
theorem xX11_rename (x : xX) (p1 : Int) (p2 : Int) (μ : xM) (Q : Int → xM → Prop) (hp1 : xIn p1) (hp2 : xIn p2) (h : tX11_rename p1 p2 μ Q) : xMet x 6 yX11_rename cX11_rename 3 (some .boolean) [.ref (x.2.2.1 + 260), iV p1, iV p2] μ (xQz x Q) := by
  refine xMet_of (by decide +kernel) (Nat.le_of_ble_eq_true rfl) ?_
  show xW x (xRm 6, RX11, cX11_rename, 3, (some .boolean), fun _ _ => True) (xQz x Q) 0 [(0, .ref (x.2.2.1 + 260)), (1, iV p1), (2, iV p2)] [] μ
  refine x_ran (fun n0 => ?_)
  have h := h n0 hp1 hp2
  refine x_aload_n 0 rfl dX11_rename_0 ?_
  refine x_callVv (As := []) (rest := []) cal_X11_good ins_X11_good sel_X11_good ly260 (by decide) rfl (xX11_good x  _ _  h) rfl ml_X11_155 (xRoom (Nat.le_of_ble_eq_true rfl)) (Nat.le_of_ble_eq_true rfl) dX11_rename_1 (fun μ1 n2 h => ?_)
  have h := h n2
  refine x_aload_n 0 rfl dX11_rename_4 ?_
  refine x_iload_n 1 rfl dX11_rename_5 ?_
  refine x_callVz (As := [iV p1]) (rest := []) cal_X11_isGuest ins_X11_isGuest sel_X11_isGuest ly260 (by decide) rfl (xX11_isGuest x p1 _ _ hp1 h) rfl ml_X11_391 (xRoom (Nat.le_of_ble_eq_true rfl)) (Nat.le_of_ble_eq_true rfl) dX11_rename_6 (fun r5 μ3 i6 n4 h => ?_)
  have h := h i6 n4
  refine x_ifne (tgt := 18) (xIz i6)  dX11_rename_9 (by decide) (fun k7 => ?_) (fun k7 => ?_)
  · have h := h.1 (xz1 i6 k7)
    refine x_iload_n 2 rfl dX11_rename_18 ?_
    refine x_iconst dX11_rename_19 ?_
    refine x_bipush dX11_rename_20 (by decide) ?_
    refine x_callSz (As := [iV p2, iV 0, iV 25]) (rest := []) cal_X11_within sta_X11_within (xX11_within x p2 0 25 _ _ hp2 ⟨by decide, by decide⟩ ⟨by decide, by decide⟩ h) rfl ml_X11_143 (xRoom (Nat.le_of_ble_eq_true rfl)) (Nat.le_of_ble_eq_true rfl) dX11_rename_22 (fun r10 μ8 i11 n9 h => ?_)
    have h := h i11 n9
    refine x_ifne (tgt := 34) (xIz i11)  dX11_rename_25 (by decide) (fun k12 => ?_) (fun k12 => ?_)
    · have h := h.1 (xz1 i11 k12)
      refine x_aload_n 0 rfl dX11_rename_34 ?_
      refine x_getR (j := 15) (r := 263) ly260 (by decide) rfl rfl (by decide) inT11 fl_X11_20 dX11_rename_35 ?_
      refine x_sipush dX11_rename_38 (by decide) ?_
      refine x_iload_n 1 rfl dX11_rename_41 ?_
      refine x_iadd dX11_rename_42 ?_
      obtain ⟨c13, h⟩ := h
      refine x_iald ly263 c13.1 c13.2 (xIb (n := 322) c13 (by decide)) (by decide) dX11_rename_43 (fun r14 => ?_)
      refine x_iload_n 2 rfl dX11_rename_44 ?_
      refine x_icmpne (tgt := 54) r14 hp2 dX11_rename_45 (by decide) (fun k15 => ?_) (fun k15 => ?_)
      · have h := h.1 k15
        refine x_aload_n 0 rfl dX11_rename_54 ?_
        refine x_getR (j := 15) (r := 263) ly260 (by decide) rfl rfl (by decide) inT11 fl_X11_20 dX11_rename_55 ?_
        refine x_sipush dX11_rename_58 (by decide) ?_
        refine x_iload_n 1 rfl dX11_rename_61 ?_
        refine x_iadd dX11_rename_62 ?_
        refine x_iload_n 2 rfl dX11_rename_63 ?_
        refine x_iast ly263 c13.1 c13.2 (xIb (n := 322) c13 (by decide)) hp2 (by decide) dX11_rename_64 (fun μ16 e18 n17 => ?_)
        have h := h μ16 e18 n17
        refine x_aload_n 0 rfl dX11_rename_65 ?_
        refine x_callVz (As := []) (rest := []) cal_X11_did ins_X11_did sel_X11_did ly260 (by decide) rfl (xX11_did x  _ _  h) rfl ml_X11_394 (xRoom (Nat.le_of_ble_eq_true rfl)) (Nat.le_of_ble_eq_true rfl) dX11_rename_66 (fun r21 μ19 i22 n20 h => ?_)
        have h := h i22 n20
        exact x_zret h i22 rfl dX11_rename_69
      · have h := h.2 k15
        refine x_aload_n 0 rfl dX11_rename_48 ?_
        refine x_iconst dX11_rename_49 ?_
        refine x_callVz (As := [iV 5]) (rest := []) cal_X11_isNot ins_X11_isNot sel_X11_isNot ly260 (by decide) rfl (xX11_isNot x 5 _ _ ⟨by decide, by decide⟩ h) rfl ml_X11_312 (xRoom (Nat.le_of_ble_eq_true rfl)) (Nat.le_of_ble_eq_true rfl) dX11_rename_50 (fun r25 μ23 i26 n24 h => ?_)
        have h := h i26 n24
        exact x_zret h i26 rfl dX11_rename_53
    · have h := h.2 k12
      refine x_aload_n 0 rfl dX11_rename_28 ?_
      refine x_iconst dX11_rename_29 ?_
      refine x_callVz (As := [iV 2]) (rest := []) cal_X11_isNot ins_X11_isNot sel_X11_isNot ly260 (by decide) rfl (xX11_isNot x 2 _ _ ⟨by decide, by decide⟩ h) rfl ml_X11_312 (xRoom (Nat.le_of_ble_eq_true rfl)) (Nat.le_of_ble_eq_true rfl) dX11_rename_30 (fun r29 μ27 i30 n28 h => ?_)
      have h := h i30 n28
      exact x_zret h i30 rfl dX11_rename_33
  · have h := h.2 k7
    refine x_aload_n 0 rfl dX11_rename_12 ?_
    refine x_iconst dX11_rename_13 ?_
    refine x_callVz (As := [iV 1]) (rest := []) cal_X11_isNot ins_X11_isNot sel_X11_isNot ly260 (by decide) rfl (xX11_isNot x 1 _ _ ⟨by decide, by decide⟩ h) rfl ml_X11_312 (xRoom (Nat.le_of_ble_eq_true rfl)) (Nat.le_of_ble_eq_true rfl) dX11_rename_14 (fun r33 μ31 i34 n32 h => ?_)
    have h := h i34 n32
    exact x_zret h i34 rfl dX11_rename_17
set_option maxRecDepth 100000 in
set_option maxHeartbeats 4000000 in
theorem xX11_bar_b37 (x : xX) (p1 : Int) (p2 : Int) (s0 : Int) (s1 : Int) (μ : xM) (Q : Int → xM → Prop)  (hp1 : xIn p1) (hp2 : p2 = 0 ∨ p2 = 1)  (h : tX11_bar_b37 p1 p2 s0 s1 μ Q ) : xW x (xRm 6, RX11, cX11_bar, 3, (some .boolean), fun _ _ => True) (xQz x Q) 37 [(0, .ref (x.2.2.1 + 260)), (1, iV p1), (2, iV p2)] [iV s1, iV s0] μ := by
  refine x_ran (fun n0 => ?_)
  have h := h n0
  obtain ⟨c11, h⟩ := h
  obtain ⟨c12, h⟩ := h
  refine x_icmpne (tgt := 46) c11 c12 dX11_bar_37 (by decide) (fun k13 => ?_) (fun k13 => ?_)
  · have h := h.1 k13
    refine x_aload_n 0 rfl dX11_bar_46 ?_
    refine x_getR (j := 15) (r := 263) ly260 (by decide) rfl rfl (by decide) inT11 fl_X11_20 dX11_bar_47 ?_
    refine x_sipush dX11_bar_50 (by decide) ?_
    refine x_iload_n 1 rfl dX11_bar_53 ?_
    refine x_iadd dX11_bar_54 ?_
    refine x_iload_n 2 rfl dX11_bar_55 ?_
    refine x_ifeq (tgt := 63) (xIz hp2)  dX11_bar_56 (by decide) (fun k14 => ?_) (fun k14 => ?_)
    · have h := h.1 k14
      refine x_iconst dX11_bar_63 ?_
      obtain ⟨c15, h⟩ := h
      refine x_iast ly263 c15.1 c15.2 (xIb (n := 322) c15 (by decide)) ⟨by decide, by decide⟩ (by decide) dX11_bar_64 (fun μ16 e18 n17 => ?_)
      have h := h μ16 e18 n17
      refine x_aload_n 0 rfl dX11_bar_65 ?_
      refine x_callVz (As := []) (rest := []) cal_X11_did ins_X11_did sel_X11_did ly260 (by decide) rfl (xX11_did x  _ _  h) rfl ml_X11_394 (xRoom (Nat.le_of_ble_eq_true rfl)) (Nat.le_of_ble_eq_true rfl) dX11_bar_66 (fun r21 μ19 i22 n20 h => ?_)
      have h := h i22 n20
      exact x_zret h i22 rfl dX11_bar_69
    · have h := h.2 (xz1 hp2 k14)
      refine x_iconst dX11_bar_59 ?_
      refine x_goto (tgt := 64) dX11_bar_60 (by decide) ?_
      obtain ⟨c23, h⟩ := h
      refine x_iast ly263 c23.1 c23.2 (xIb (n := 322) c23 (by decide)) ⟨by decide, by decide⟩ (by decide) dX11_bar_64 (fun μ24 e26 n25 => ?_)
      have h := h μ24 e26 n25
      refine x_aload_n 0 rfl dX11_bar_65 ?_
      refine x_callVz (As := []) (rest := []) cal_X11_did ins_X11_did sel_X11_did ly260 (by decide) rfl (xX11_did x  _ _  h) rfl ml_X11_394 (xRoom (Nat.le_of_ble_eq_true rfl)) (Nat.le_of_ble_eq_true rfl) dX11_bar_66 (fun r29 μ27 i30 n28 h => ?_)
      have h := h i30 n28
      exact x_zret h i30 rfl dX11_bar_69
  · have h := h.2 k13
    refine x_aload_n 0 rfl dX11_bar_40 ?_
    refine x_iconst dX11_bar_41 ?_
    refine x_callVz (As := [iV 5]) (rest := []) cal_X11_isNot ins_X11_isNot sel_X11_isNot ly260 (by decide) rfl (xX11_isNot x 5 _ _ ⟨by decide, by decide⟩ h) rfl ml_X11_312 (xRoom (Nat.le_of_ble_eq_true rfl)) (Nat.le_of_ble_eq_true rfl) dX11_bar_42 (fun r33 μ31 i34 n32 h => ?_)
    have h := h i34 n32
    exact x_zret h i34 rfl dX11_bar_45
set_option maxRecDepth 100000 in
set_option maxHeartbeats 4000000 in
theorem xX11_bar (x : xX) (p1 : Int) (p2 : Int) (μ : xM) (Q : Int → xM → Prop) (hp1 : xIn p1) (hp2 : p2 = 0 ∨ p2 = 1) (h : tX11_bar p1 p2 μ Q) : xMet x 6 yX11_bar cX11_bar 3 (some .boolean) [.ref (x.2.2.1 + 260), iV p1, iV p2] μ (xQz x Q) := by
  refine xMet_of (by decide +kernel) (Nat.le_of_ble_eq_true rfl) ?_
  show xW x (xRm 6, RX11, cX11_bar, 3, (some .boolean), fun _ _ => True) (xQz x Q) 0 [(0, .ref (x.2.2.1 + 260)), (1, iV p1), (2, iV p2)] [] μ
  refine x_ran (fun n0 => ?_)
  have h := h n0 hp1 hp2
  refine x_aload_n 0 rfl dX11_bar_0 ?_
  refine x_callVv (As := []) (rest := []) cal_X11_good ins_X11_good sel_X11_good ly260 (by decide) rfl (xX11_good x  _ _  h) rfl ml_X11_155 (xRoom (Nat.le_of_ble_eq_true rfl)) (Nat.le_of_ble_eq_true rfl) dX11_bar_1 (fun μ1 n2 h => ?_)
  have h := h n2
  refine x_aload_n 0 rfl dX11_bar_4 ?_
  refine x_iload_n 1 rfl dX11_bar_5 ?_
  refine x_callVz (As := [iV p1]) (rest := []) cal_X11_isWordThere ins_X11_isWordThere sel_X11_isWordThere ly260 (by decide) rfl (xX11_isWordThere x p1 _ _ hp1 h) rfl ml_X11_249 (xRoom (Nat.le_of_ble_eq_true rfl)) (Nat.le_of_ble_eq_true rfl) dX11_bar_6 (fun r5 μ3 i6 n4 h => ?_)
  have h := h i6 n4
  refine x_ifne (tgt := 18) (xIz i6)  dX11_bar_9 (by decide) (fun k7 => ?_) (fun k7 => ?_)
  · have h := h.1 (xz1 i6 k7)
    refine x_aload_n 0 rfl dX11_bar_18 ?_
    refine x_getR (j := 15) (r := 263) ly260 (by decide) rfl rfl (by decide) inT11 fl_X11_20 dX11_bar_19 ?_
    refine x_sipush dX11_bar_22 (by decide) ?_
    refine x_iload_n 1 rfl dX11_bar_25 ?_
    refine x_iadd dX11_bar_26 ?_
    obtain ⟨c8, h⟩ := h
    refine x_iald ly263 c8.1 c8.2 (xIb (n := 322) c8 (by decide)) (by decide) dX11_bar_27 (fun r9 => ?_)
    refine x_iload_n 2 rfl dX11_bar_28 ?_
    refine x_ifeq (tgt := 36) (xIz hp2)  dX11_bar_29 (by decide) (fun k10 => ?_) (fun k10 => ?_)
    · have h := h.1 k10
      refine x_iconst dX11_bar_36 ?_
      exact x_sub [0, 1, 2] rfl (xX11_bar_b37 x p1 p2 (μ3 263 ((199 + p1).toNat)) 0 μ3 Q  hp1 hp2 h)
    · have h := h.2 (xz1 hp2 k10)
      refine x_iconst dX11_bar_32 ?_
      refine x_goto (tgt := 37) dX11_bar_33 (by decide) ?_
      exact x_sub [0, 1, 2] rfl (xX11_bar_b37 x p1 p2 (μ3 263 ((199 + p1).toNat)) 1 μ3 Q  hp1 hp2 h)
  · have h := h.2 k7
    refine x_aload_n 0 rfl dX11_bar_12 ?_
    refine x_iconst dX11_bar_13 ?_
    refine x_callVz (As := [iV 1]) (rest := []) cal_X11_isNot ins_X11_isNot sel_X11_isNot ly260 (by decide) rfl (xX11_isNot x 1 _ _ ⟨by decide, by decide⟩ h) rfl ml_X11_312 (xRoom (Nat.le_of_ble_eq_true rfl)) (Nat.le_of_ble_eq_true rfl) dX11_bar_14 (fun r37 μ35 i38 n36 h => ?_)
    have h := h i38 n36
    exact x_zret h i38 rfl dX11_bar_17
set_option maxRecDepth 100000 in
set_option maxHeartbeats 4000000 in
theorem xX11_guest (x : xX) (p1 : Int) (μ : xM) (Q : Int → xM → Prop) (hp1 : xIn p1) (h : tX11_guest p1 μ Q) : xMet x 3 yX11_guest cX11_guest 2 (some .int) [.ref (x.2.2.1 + 260), iV p1] μ (xQi x Q) := by
  refine xMet_of (by decide +kernel) (Nat.le_of_ble_eq_true rfl) ?_
  show xW x (xRm 3, RX11, cX11_guest, 2, (some .int), fun _ _ => True) (xQi x Q) 0 [(0, .ref (x.2.2.1 + 260)), (1, iV p1)] [] μ
  refine x_ran (fun n0 => ?_)
  have h := h n0 hp1
  refine x_aload_n 0 rfl dX11_guest_0 ?_
  refine x_callVv (As := []) (rest := []) cal_X11_good ins_X11_good sel_X11_good ly260 (by decide) rfl (xX11_good x  _ _  h) rfl ml_X11_155 (xRoom (Nat.le_of_ble_eq_true rfl)) (Nat.le_of_ble_eq_true rfl) dX11_guest_1 (fun μ1 n2 h => ?_)
  have h := h n2
  refine x_aload_n 0 rfl dX11_guest_4 ?_
  refine x_iload_n 1 rfl dX11_guest_5 ?_
  refine x_callVz (As := [iV p1]) (rest := []) cal_X11_isGuest ins_X11_isGuest sel_X11_isGuest ly260 (by decide) rfl (xX11_isGuest x p1 _ _ hp1 h) rfl ml_X11_391 (xRoom (Nat.le_of_ble_eq_true rfl)) (Nat.le_of_ble_eq_true rfl) dX11_guest_6 (fun r5 μ3 i6 n4 h => ?_)
  have h := h i6 n4
  refine x_ifeq (tgt := 25) (xIz i6)  dX11_guest_9 (by decide) (fun k7 => ?_) (fun k7 => ?_)
  · have h := h.1 k7
    refine x_aload_n 0 rfl dX11_guest_25 ?_
    refine x_iconst dX11_guest_26 ?_
    refine x_callVi (As := [iV 1]) (rest := []) cal_X11_no ins_X11_no sel_X11_no ly260 (by decide) rfl (xX11_no x 1 _ _ ⟨by decide, by decide⟩ h) rfl ml_X11_158 (xRoom (Nat.le_of_ble_eq_true rfl)) (Nat.le_of_ble_eq_true rfl) dX11_guest_27 (fun r10 μ8 i11 n9 h => ?_)
    have h := h i11 n9
    exact x_iret h i11 rfl dX11_guest_30
  · have h := h.2 (xz1 i6 k7)
    refine x_aload_n 0 rfl dX11_guest_12 ?_
    refine x_getR (j := 15) (r := 263) ly260 (by decide) rfl rfl (by decide) inT11 fl_X11_20 dX11_guest_13 ?_
    refine x_sipush dX11_guest_16 (by decide) ?_
    refine x_iload_n 1 rfl dX11_guest_19 ?_
    refine x_iadd dX11_guest_20 ?_
    obtain ⟨c12, h⟩ := h
    refine x_iald ly263 c12.1 c12.2 (xIb (n := 322) c12 (by decide)) (by decide) dX11_guest_21 (fun r13 => ?_)
    refine x_goto (tgt := 30) dX11_guest_22 (by decide) ?_
    exact x_iret h r13 rfl dX11_guest_30
set_option maxRecDepth 100000 in
set_option maxHeartbeats 4000000 in
theorem xX11_led (x : xX) (p1 : Int) (μ : xM) (Q : Int → xM → Prop) (hp1 : xIn p1) (h : tX11_led p1 μ Q) : xMet x 1 yX11_led cX11_led 4 (some .int) [.ref (x.2.2.1 + 260), iV p1] μ (xQi x Q) := by
  refine xMet_of (by decide +kernel) (Nat.le_of_ble_eq_true rfl) ?_
  show xW x (xRm 1, RX11, cX11_led, 4, (some .int), fun _ _ => True) (xQi x Q) 0 [(0, .ref (x.2.2.1 + 260)), (1, iV p1)] [] μ
  refine x_ran (fun n0 => ?_)
  have h := h n0 hp1
  refine x_iconst dX11_led_0 ?_
  refine x_istore_n [(2, iV 0), (0, .ref (x.2.2.1 + 260)), (1, iV p1)] dX11_led_1 (show 2 < 4 by decide) rfl ?_
  refine x_iconst dX11_led_2 ?_
  refine x_istore_n [(3, iV 0), (2, iV 0), (0, .ref (x.2.2.1 + 260)), (1, iV p1)] dX11_led_3 (show 3 < 4 by decide) rfl ?_
  refine x_sub [2, 3, 1, 0] rfl ?_
  refine x_loop2 (fun l2_1 l3_2 => [(0, .ref (x.2.2.1 + 260)), (1, iV p1), (2, iV l2_1), (3, iV l3_2)]) h (fun J4 l2_1 l3_2 μ3 hJ4 h n4 => ?_)
  refine x_aload_n 0 rfl dX11_led_4 ?_
  refine x_getI (j := 14) ly260 (by decide) rfl rfl (by decide) inT11 fl_X11_164 dX11_led_5 (fun r5 => ?_)
  refine x_ifeq (tgt := 59) r5  dX11_led_8 (by decide) (fun k6 => ?_) (fun k6 => ?_)
  · have h := h.1 k6
    refine x_aload_n 0 rfl dX11_led_59 ?_
    refine x_iconst dX11_led_60 ?_
    refine x_putI (j := 0) ly260 (by decide) rfl rfl (by decide) inT11 fl_X11_74 tyX11 tyX11_ok nmX11 rfl ⟨by decide, by decide⟩ (by decide +kernel) dX11_led_61 (fun μ7 e9 n8 => ?_)
    have h := h μ7 e9 n8
    refine x_iconst dX11_led_64 ?_
    exact x_iret h ⟨by decide, by decide⟩ rfl dX11_led_65
  · have h := h.2 k6
    refine x_iload_n 3 rfl dX11_led_11 ?_
    refine x_aload_n 0 rfl dX11_led_12 ?_
    refine x_getR (j := 17) (r := 265) ly260 (by decide) rfl rfl (by decide) inT11 fl_X11_26 dX11_led_13 ?_
    refine x_iconst dX11_led_16 ?_
    refine x_iald ly265 (by decide) (by decide) ⟨by decide, by decide⟩ (by decide) dX11_led_17 (fun r10 => ?_)
    obtain ⟨c11, h⟩ := h
    refine x_icmpge (tgt := 59) c11 r10 dX11_led_18 (by decide) (fun k12 => ?_) (fun k12 => ?_)
    · have h := h.1 k12
      refine x_aload_n 0 rfl dX11_led_59 ?_
      refine x_iconst dX11_led_60 ?_
      refine x_putI (j := 0) ly260 (by decide) rfl rfl (by decide) inT11 fl_X11_74 tyX11 tyX11_ok nmX11 rfl ⟨by decide, by decide⟩ (by decide +kernel) dX11_led_61 (fun μ13 e15 n14 => ?_)
      have h := h μ13 e15 n14
      refine x_iconst dX11_led_64 ?_
      exact x_iret h ⟨by decide, by decide⟩ rfl dX11_led_65
    · have h := h.2 k12
      refine x_aload_n 0 rfl dX11_led_21 ?_
      refine x_getR (j := 17) (r := 265) ly260 (by decide) rfl rfl (by decide) inT11 fl_X11_26 dX11_led_22 ?_
      refine x_iconst dX11_led_25 ?_
      refine x_iald ly265 (by decide) (by decide) ⟨by decide, by decide⟩ (by decide) dX11_led_26 (fun r16 => ?_)
      refine x_iload_n 3 rfl dX11_led_27 ?_
      refine x_ishr dX11_led_28 ?_
      refine x_iconst dX11_led_29 ?_
      refine x_iand dX11_led_30 ?_
      refine x_iconst dX11_led_31 ?_
      refine x_icmpne (tgt := 38) (xAnd_in _ _) ⟨by decide, by decide⟩ dX11_led_32 (by decide) (fun k17 => ?_) (fun k17 => ?_)
      · have h := h.1 k17
        refine x_iload_n 2 rfl dX11_led_38 ?_
        refine x_iload_n 1 rfl dX11_led_39 ?_
        obtain ⟨c18, h⟩ := h
        refine x_icmpne (tgt := 50) c18 hp1 dX11_led_40 (by decide) (fun k19 => ?_) (fun k19 => ?_)
        · have h := h.1 k19
          refine x_iinc 2 rfl [(2, iV (l2_1 + 1)), (0, .ref (x.2.2.1 + 260)), (1, iV p1), (3, iV l3_2)] dX11_led_50 (show 2 < 4 by decide) rfl ?_
          refine x_iinc 3 rfl [(3, iV (l3_2 + 1)), (2, iV (l2_1 + 1)), (0, .ref (x.2.2.1 + 260)), (1, iV p1)] dX11_led_53 (show 3 < 4 by decide) rfl ?_
          refine x_goto (tgt := 4) dX11_led_56 (by decide) ?_
          exact x_sub [2, 3, 1, 0] rfl (hJ4 _ _ _ h)
        · have h := h.2 k19
          refine x_aload_n 0 rfl dX11_led_43 ?_
          refine x_iconst dX11_led_44 ?_
          refine x_putI (j := 0) ly260 (by decide) rfl rfl (by decide) inT11 fl_X11_74 tyX11 tyX11_ok nmX11 rfl ⟨by decide, by decide⟩ (by decide +kernel) dX11_led_45 (fun μ20 e22 n21 => ?_)
          have h := h μ20 e22 n21
          refine x_iload_n 3 rfl dX11_led_48 ?_
          exact x_iret h c11 rfl dX11_led_49
      · have h := h.2 k17
        refine x_goto (tgt := 53) dX11_led_35 (by decide) ?_
        refine x_iinc 3 rfl [(3, iV (l3_2 + 1)), (0, .ref (x.2.2.1 + 260)), (1, iV p1), (2, iV l2_1)] dX11_led_53 (show 3 < 4 by decide) rfl ?_
        refine x_goto (tgt := 4) dX11_led_56 (by decide) ?_
        exact x_sub [1, 2, 3, 0] rfl (hJ4 _ _ _ h)
set_option maxRecDepth 100000 in
set_option maxHeartbeats 4000000 in
theorem xX11_size (x : xX) (p1 : Int) (μ : xM) (Q : Int → xM → Prop) (hp1 : xIn p1) (h : tX11_size p1 μ Q) : xMet x 2 yX11_size cX11_size 2 (some .int) [.ref (x.2.2.1 + 260), iV p1] μ (xQi x Q) := by
  refine xMet_of (by decide +kernel) (Nat.le_of_ble_eq_true rfl) ?_
  show xW x (xRm 2, RX11, cX11_size, 2, (some .int), fun _ _ => True) (xQi x Q) 0 [(0, .ref (x.2.2.1 + 260)), (1, iV p1)] [] μ
  refine x_ran (fun n0 => ?_)
  have h := h n0 hp1
  refine x_aload_n 0 rfl dX11_size_0 ?_
  refine x_iconst dX11_size_1 ?_
  refine x_putI (j := 0) ly260 (by decide) rfl rfl (by decide) inT11 fl_X11_74 tyX11 tyX11_ok nmX11 rfl ⟨by decide, by decide⟩ (by decide +kernel) dX11_size_2 (fun μ1 e3 n2 => ?_)
  have h := h μ1 e3 n2
  refine x_iload_n 1 rfl dX11_size_5 ?_
  refine x_bipush dX11_size_6 (by decide) ?_
  refine x_icmpne (tgt := 16) hp1 ⟨by decide, by decide⟩ dX11_size_8 (by decide) (fun k4 => ?_) (fun k4 => ?_)
  · have h := h.1 k4
    refine x_aload_n 0 rfl dX11_size_16 ?_
    refine x_getI (j := 14) ly260 (by decide) rfl rfl (by decide) inT11 fl_X11_164 dX11_size_17 (fun r5 => ?_)
    refine x_ifne (tgt := 39) r5  dX11_size_20 (by decide) (fun k6 => ?_) (fun k6 => ?_)
    · have h := h.1 k6
      refine x_iload_n 1 rfl dX11_size_39 ?_
      by_cases k8 : p1 = 0
      · refine x_tabIn (tgt := 92) 0 hp1 (by omega) (by decide) rfl (by decide) dX11_size_40 ?_
        have h := h.1 k8
        refine x_aload_n 0 rfl dX11_size_92 ?_
        refine x_getR (j := 15) (r := 263) ly260 (by decide) rfl rfl (by decide) inT11 fl_X11_20 dX11_size_93 ?_
        refine x_iconst dX11_size_96 ?_
        refine x_iald ly263 (by decide) (by decide) ⟨by decide, by decide⟩ (by decide) dX11_size_97 (fun r7 => ?_)
        exact x_iret h r7 rfl dX11_size_98
      by_cases k10 : p1 = 1
      · refine x_tabIn (tgt := 99) 1 hp1 (by omega) (by decide) rfl (by decide) dX11_size_40 ?_
        have h := h.2.1 k10
        refine x_aload_n 0 rfl dX11_size_99 ?_
        refine x_getR (j := 15) (r := 263) ly260 (by decide) rfl rfl (by decide) inT11 fl_X11_20 dX11_size_100 ?_
        refine x_iconst dX11_size_103 ?_
        refine x_iald ly263 (by decide) (by decide) ⟨by decide, by decide⟩ (by decide) dX11_size_104 (fun r9 => ?_)
        exact x_iret h r9 rfl dX11_size_105
      by_cases k12 : p1 = 2
      · refine x_tabIn (tgt := 106) 2 hp1 (by omega) (by decide) rfl (by decide) dX11_size_40 ?_
        have h := h.2.2.1 k12
        refine x_aload_n 0 rfl dX11_size_106 ?_
        refine x_getR (j := 15) (r := 263) ly260 (by decide) rfl rfl (by decide) inT11 fl_X11_20 dX11_size_107 ?_
        refine x_iconst dX11_size_110 ?_
        refine x_iald ly263 (by decide) (by decide) ⟨by decide, by decide⟩ (by decide) dX11_size_111 (fun r11 => ?_)
        exact x_iret h r11 rfl dX11_size_112
      by_cases k14 : p1 = 3
      · refine x_tabIn (tgt := 113) 3 hp1 (by omega) (by decide) rfl (by decide) dX11_size_40 ?_
        have h := h.2.2.2.1 k14
        refine x_aload_n 0 rfl dX11_size_113 ?_
        refine x_getR (j := 15) (r := 263) ly260 (by decide) rfl rfl (by decide) inT11 fl_X11_20 dX11_size_114 ?_
        refine x_iconst dX11_size_117 ?_
        refine x_iald ly263 (by decide) (by decide) ⟨by decide, by decide⟩ (by decide) dX11_size_118 (fun r13 => ?_)
        exact x_iret h r13 rfl dX11_size_119
      by_cases k16 : p1 = 4
      · refine x_tabIn (tgt := 120) 4 hp1 (by omega) (by decide) rfl (by decide) dX11_size_40 ?_
        have h := h.2.2.2.2.1 k16
        refine x_aload_n 0 rfl dX11_size_120 ?_
        refine x_getR (j := 15) (r := 263) ly260 (by decide) rfl rfl (by decide) inT11 fl_X11_20 dX11_size_121 ?_
        refine x_iconst dX11_size_124 ?_
        refine x_iald ly263 (by decide) (by decide) ⟨by decide, by decide⟩ (by decide) dX11_size_125 (fun r15 => ?_)
        exact x_iret h r15 rfl dX11_size_126
      by_cases k18 : p1 = 5
      · refine x_tabIn (tgt := 127) 5 hp1 (by omega) (by decide) rfl (by decide) dX11_size_40 ?_
        have h := h.2.2.2.2.2.1 k18
        refine x_aload_n 0 rfl dX11_size_127 ?_
        refine x_getR (j := 15) (r := 263) ly260 (by decide) rfl rfl (by decide) inT11 fl_X11_20 dX11_size_128 ?_
        refine x_bipush dX11_size_131 (by decide) ?_
        refine x_iald ly263 (by decide) (by decide) ⟨by decide, by decide⟩ (by decide) dX11_size_133 (fun r17 => ?_)
        exact x_iret h r17 rfl dX11_size_134
      by_cases k20 : p1 = 6
      · refine x_tabIn (tgt := 135) 6 hp1 (by omega) (by decide) rfl (by decide) dX11_size_40 ?_
        have h := h.2.2.2.2.2.2.1 k20
        refine x_aload_n 0 rfl dX11_size_135 ?_
        refine x_getR (j := 17) (r := 265) ly260 (by decide) rfl rfl (by decide) inT11 fl_X11_26 dX11_size_136 ?_
        refine x_iconst dX11_size_139 ?_
        refine x_iald ly265 (by decide) (by decide) ⟨by decide, by decide⟩ (by decide) dX11_size_140 (fun r19 => ?_)
        exact x_iret h r19 rfl dX11_size_141
      by_cases k22 : p1 = 7
      · refine x_tabIn (tgt := 142) 7 hp1 (by omega) (by decide) rfl (by decide) dX11_size_40 ?_
        have h := h.2.2.2.2.2.2.2.1 k22
        refine x_aload_n 0 rfl dX11_size_142 ?_
        refine x_getR (j := 17) (r := 265) ly260 (by decide) rfl rfl (by decide) inT11 fl_X11_26 dX11_size_143 ?_
        refine x_iconst dX11_size_146 ?_
        refine x_iald ly265 (by decide) (by decide) ⟨by decide, by decide⟩ (by decide) dX11_size_147 (fun r21 => ?_)
        exact x_iret h r21 rfl dX11_size_148
      by_cases k24 : p1 = 8
      · refine x_tabIn (tgt := 149) 8 hp1 (by omega) (by decide) rfl (by decide) dX11_size_40 ?_
        have h := h.2.2.2.2.2.2.2.2.1 k24
        refine x_aload_n 0 rfl dX11_size_149 ?_
        refine x_getI (j := 19) ly260 (by decide) rfl rfl (by decide) inT11 fl_X11_174 dX11_size_150 (fun r23 => ?_)
        exact x_iret h r23 rfl dX11_size_153
      have k25 : p1 < 0 ∨ 8 < p1 := by omega
      refine x_tabOut (tgt := 154) hp1 k25 (by decide) dX11_size_40 ?_
      have h := h.2.2.2.2.2.2.2.2.2 k25
      refine x_iconst dX11_size_154 ?_
      exact x_iret h ⟨by decide, by decide⟩ rfl dX11_size_155
    · have h := h.2 k6
      refine x_iload_n 1 rfl dX11_size_23 ?_
      refine x_iconst dX11_size_24 ?_
      refine x_bipush dX11_size_25 (by decide) ?_
      refine x_callSz (As := [iV p1, iV 0, iV 8]) (rest := []) cal_X11_within sta_X11_within (xX11_within x p1 0 8 _ _ hp1 ⟨by decide, by decide⟩ ⟨by decide, by decide⟩ h) rfl ml_X11_143 (xRoom (Nat.le_of_ble_eq_true rfl)) (Nat.le_of_ble_eq_true rfl) dX11_size_27 (fun r28 μ26 i29 n27 h => ?_)
      have h := h i29 n27
      refine x_ifeq (tgt := 37) (xIz i29)  dX11_size_30 (by decide) (fun k30 => ?_) (fun k30 => ?_)
      · have h := h.1 k30
        refine x_iconst dX11_size_37 ?_
        exact x_iret h ⟨by decide, by decide⟩ rfl dX11_size_38
      · have h := h.2 (xz1 i29 k30)
        refine x_iconst dX11_size_33 ?_
        refine x_goto (tgt := 38) dX11_size_34 (by decide) ?_
        exact x_iret h ⟨by decide, by decide⟩ rfl dX11_size_38
  · have h := h.2 k4
    refine x_aload_n 0 rfl dX11_size_11 ?_
    refine x_getI (j := 2) ly260 (by decide) rfl rfl (by decide) inT11 fl_X11_80 dX11_size_12 (fun r31 => ?_)
    exact x_iret h r31 rfl dX11_size_15
set_option maxRecDepth 100000 in
set_option maxHeartbeats 4000000 in
theorem xX11_trouble (x : xX)  (μ : xM) (Q : Int → xM → Prop)  (h : tX11_trouble  μ Q) : xMet x 1 yX11_trouble cX11_trouble 1 (some .int) [.ref (x.2.2.1 + 260)] μ (xQi x Q) := by
  refine xMet_of (by decide +kernel) (Nat.le_of_ble_eq_true rfl) ?_
  show xW x (xRm 1, RX11, cX11_trouble, 1, (some .int), fun _ _ => True) (xQi x Q) 0 [(0, .ref (x.2.2.1 + 260))] [] μ
  refine x_ran (fun n0 => ?_)
  have h := h n0 
  refine x_aload_n 0 rfl dX11_trouble_0 ?_
  refine x_iconst dX11_trouble_1 ?_
  refine x_putI (j := 0) ly260 (by decide) rfl rfl (by decide) inT11 fl_X11_74 tyX11 tyX11_ok nmX11 rfl ⟨by decide, by decide⟩ (by decide +kernel) dX11_trouble_2 (fun μ1 e3 n2 => ?_)
  have h := h μ1 e3 n2
  refine x_aload_n 0 rfl dX11_trouble_5 ?_
  refine x_getI (j := 11) ly260 (by decide) rfl rfl (by decide) inT11 fl_X11_77 dX11_trouble_6 (fun r4 => ?_)
  exact x_iret h r4 rfl dX11_trouble_9
