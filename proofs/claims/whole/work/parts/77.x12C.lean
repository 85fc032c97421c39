set_option maxRecDepth 100000 in
set_option maxHeartbeats 4000000 in
theorem xX10_bar (x : xX) (p1 : Int) (p2 : Int) (μ : xM) (Q : Int → xM → Prop) (hp1 : xIn p1) (hp2 : p2 = 0 ∨ p2 = 1) (h : tX10_bar p1 p2 μ Q) : xMet x 7 yX10_bar cX10_bar 3 (some .boolean) [.ref (x.2.2.1 + 0), iV p1, iV p2] μ (xQz x Q) := by
  refine xMet_of (by decide +kernel) (Nat.le_of_ble_eq_true rfl) ?_
  show xW x (xRm 7, RX10, cX10_bar, 3, (some .boolean), fun _ _ => True) (xQz x Q) 0 [(0, .ref (x.2.2.1 + 0)), (1, iV p1), (2, iV p2)] [] μ
  refine x_ran (fun n0 => ?_)
  have h := h n0 hp1 hp2
  refine x_aload_n 0 rfl dX10_bar_0 ?_
  refine x_getR (j := 2) (r := 39) ly0 (by decide) rfl rfl (by decide) inT10 fl_X10_25 dX10_bar_1 ?_
  refine x_iload_n 1 rfl dX10_bar_4 ?_
  refine x_callVz (As := [iV p1]) (rest := []) cal_X2_isWord ins_X2_isWord sel_X2_isWord ly39 (by decide) rfl (xX2_isWord x 39 p1 _ _ isHouse_39 hp1 h) rfl ml_X10_152 (xRoom (Nat.le_of_ble_eq_true rfl)) (Nat.le_of_ble_eq_true rfl) dX10_bar_5 (fun r3 μ1 i4 n2 h => ?_)
  have h := h i4 n2
  refine x_ifne (tgt := 17) (xIz i4)  dX10_bar_8 (by decide) (fun k5 => ?_) (fun k5 => ?_)
  · have h := h.1 (xz1 i4 k5)
    refine x_aload_n 0 rfl dX10_bar_17 ?_
    refine x_getR (j := 2) (r := 39) ly0 (by decide) rfl rfl (by decide) inT10 fl_X10_25 dX10_bar_18 ?_
    refine x_iload_n 1 rfl dX10_bar_21 ?_
    refine x_callVz (As := [iV p1]) (rest := []) cal_X2_isBarred ins_X2_isBarred sel_X2_isBarred ly39 (by decide) rfl (xX2_isBarred x 39 p1 _ _ isHouse_39 hp1 h) rfl ml_X10_161 (xRoom (Nat.le_of_ble_eq_true rfl)) (Nat.le_of_ble_eq_true rfl) dX10_bar_22 (fun r8 μ6 i9 n7 h => ?_)
    have h := h i9 n7
    refine x_iload_n 2 rfl dX10_bar_25 ?_
    refine x_icmpne (tgt := 35) (xIz i9) (xIz hp2) dX10_bar_26 (by decide) (fun k10 => ?_) (fun k10 => ?_)
    · have h := h.1 k10
      refine x_aload_n 0 rfl dX10_bar_35 ?_
      refine x_getR (j := 2) (r := 39) ly0 (by decide) rfl rfl (by decide) inT10 fl_X10_25 dX10_bar_36 ?_
      refine x_iload_n 1 rfl dX10_bar_39 ?_
      refine x_iload_n 2 rfl dX10_bar_40 ?_
      refine x_callVv (As := [iV p1, iV p2]) (rest := []) cal_X2_setBarred ins_X2_setBarred sel_X2_setBarred ly39 (by decide) rfl (xX2_setBarred x 39 p1 p2 _ _ isHouse_39 hp1 hp2 h) rfl ml_X10_348 (xRoom (Nat.le_of_ble_eq_true rfl)) (Nat.le_of_ble_eq_true rfl) dX10_bar_41 (fun μ11 n12 h => ?_)
      have h := h n12
      refine x_aload_n 0 rfl dX10_bar_44 ?_
      refine x_getR (j := 3) (r := 73) ly0 (by decide) rfl rfl (by decide) inT10 fl_X10_31 dX10_bar_45 ?_
      refine x_callVv (As := []) (rest := []) cal_X1_settle ins_X1_settle sel_X1_settle ly73 (by decide) rfl (xX1_settle x  _ _  h) rfl ml_X10_352 (xRoom (Nat.le_of_ble_eq_true rfl)) (Nat.le_of_ble_eq_true rfl) dX10_bar_48 (fun μ13 n14 h => ?_)
      have h := h n14
      refine x_aload_n 0 rfl dX10_bar_51 ?_
      refine x_getR (j := 14) (r := 249) ly0 (by decide) rfl rfl (by decide) inT10 fl_X10_97 dX10_bar_52 ?_
      refine x_aload_n 0 rfl dX10_bar_55 ?_
      refine x_getR (j := 14) (r := 249) ly0 (by decide) rfl rfl (by decide) inT10 fl_X10_97 dX10_bar_56 ?_
      refine x_getI (j := 0) ly249 (by decide) rfl rfl (by decide) inT4 fl_X10_345 dX10_bar_59 (fun r15 => ?_)
      refine x_callVv (As := [iV (μ13 249 0)]) (rest := []) cal_X4_begin ins_X4_begin sel_X4_begin ly249 (by decide) rfl (xX4_begin x 249 (μ13 249 0) _ _ isNight_249 r15 h) rfl ml_X10_130 (xRoom (Nat.le_of_ble_eq_true rfl)) (Nat.le_of_ble_eq_true rfl) dX10_bar_62 (fun μ16 n17 h => ?_)
      have h := h n17
      refine x_aload_n 0 rfl dX10_bar_65 ?_
      refine x_callVv (As := []) (rest := []) cal_X10_renew ins_X10_renew sel_X10_renew ly0 (by decide) rfl (xX10_renew x  _ _  h) rfl ml_X10_134 (xRoom (Nat.le_of_ble_eq_true rfl)) (Nat.le_of_ble_eq_true rfl) dX10_bar_66 (fun μ18 n19 h => ?_)
      have h := h n19
      refine x_aload_n 0 rfl dX10_bar_69 ?_
      refine x_callVz (As := []) (rest := []) cal_X10_allowed ins_X10_allowed sel_X10_allowed ly0 (by decide) rfl (xX10_allowed x  _ _  h) rfl ml_X10_240 (xRoom (Nat.le_of_ble_eq_true rfl)) (Nat.le_of_ble_eq_true rfl) dX10_bar_70 (fun r22 μ20 i23 n21 h => ?_)
      have h := h i23 n21
      exact x_zret h i23 rfl dX10_bar_73
    · have h := h.2 k10
      refine x_aload_n 0 rfl dX10_bar_29 ?_
      refine x_iconst dX10_bar_30 ?_
      refine x_callVz (As := [iV 5]) (rest := []) cal_X10_denied ins_X10_denied sel_X10_denied ly0 (by decide) rfl (xX10_denied x 5 _ _ ⟨by decide, by decide⟩ h) rfl ml_X10_237 (xRoom (Nat.le_of_ble_eq_true rfl)) (Nat.le_of_ble_eq_true rfl) dX10_bar_31 (fun r26 μ24 i27 n25 h => ?_)
      have h := h i27 n25
      exact x_zret h i27 rfl dX10_bar_34
  · have h := h.2 k5
    refine x_aload_n 0 rfl dX10_bar_11 ?_
    refine x_iconst dX10_bar_12 ?_
    refine x_callVz (As := [iV 1]) (rest := []) cal_X10_denied ins_X10_denied sel_X10_denied ly0 (by decide) rfl (xX10_denied x 1 _ _ ⟨by decide, by decide⟩ h) rfl ml_X10_237 (xRoom (Nat.le_of_ble_eq_true rfl)) (Nat.le_of_ble_eq_true rfl) dX10_bar_13 (fun r30 μ28 i31 n29 h => ?_)
    have h := h i31 n29
    exact x_zret h i31 rfl dX10_bar_16
set_option maxRecDepth 100000 in
set_option maxHeartbeats 4000000 in
theorem xX10_guest (x : xX) (p1 : Int) (μ : xM) (Q : Int → xM → Prop) (hp1 : xIn p1) (h : tX10_guest p1 μ Q) : xMet x 3 yX10_guest cX10_guest 2 (some .int) [.ref (x.2.2.1 + 0), iV p1] μ (xQi x Q) := by
  refine xMet_of (by decide +kernel) (Nat.le_of_ble_eq_true rfl) ?_
  show xW x (xRm 3, RX10, cX10_guest, 2, (some .int), fun _ _ => True) (xQi x Q) 0 [(0, .ref (x.2.2.1 + 0)), (1, iV p1)] [] μ
  refine x_ran (fun n0 => ?_)
  have h := h n0 hp1
  refine x_aload_n 0 rfl dX10_guest_0 ?_
  refine x_getR (j := 2) (r := 39) ly0 (by decide) rfl rfl (by decide) inT10 fl_X10_25 dX10_guest_1 ?_
  refine x_iload_n 1 rfl dX10_guest_4 ?_
  refine x_callVz (As := [iV p1]) (rest := []) cal_X2_isGuest ins_X2_isGuest sel_X2_isGuest ly39 (by decide) rfl (xX2_isGuest x 39 p1 _ _ isHouse_39 hp1 h) rfl ml_X10_339 (xRoom (Nat.le_of_ble_eq_true rfl)) (Nat.le_of_ble_eq_true rfl) dX10_guest_5 (fun r3 μ1 i4 n2 h => ?_)
  have h := h i4 n2
  refine x_ifeq (tgt := 26) (xIz i4)  dX10_guest_8 (by decide) (fun k5 => ?_) (fun k5 => ?_)
  · have h := h.1 k5
    refine x_aload_n 0 rfl dX10_guest_26 ?_
    refine x_iconst dX10_guest_27 ?_
    refine x_callVi (As := [iV 1]) (rest := []) cal_X10_refused ins_X10_refused sel_X10_refused ly0 (by decide) rfl (xX10_refused x 1 _ _ ⟨by decide, by decide⟩ h) rfl ml_X10_116 (xRoom (Nat.le_of_ble_eq_true rfl)) (Nat.le_of_ble_eq_true rfl) dX10_guest_28 (fun r8 μ6 i9 n7 h => ?_)
    have h := h i9 n7
    exact x_iret h i9 rfl dX10_guest_31
  · have h := h.2 (xz1 i4 k5)
    refine x_aload_n 0 rfl dX10_guest_11 ?_
    refine x_aload_n 0 rfl dX10_guest_12 ?_
    refine x_getR (j := 2) (r := 39) ly0 (by decide) rfl rfl (by decide) inT10 fl_X10_25 dX10_guest_13 ?_
    refine x_iload_n 1 rfl dX10_guest_16 ?_
    refine x_callVi (As := [iV p1]) (rest := [.ref (x.2.2.1 + 0)]) cal_X2_firstOf ins_X2_firstOf sel_X2_firstOf ly39 (by decide) rfl (xX2_firstOf x 39 p1 _ _ isHouse_39 hp1 h) rfl ml_X10_253 (xRoom (Nat.le_of_ble_eq_true rfl)) (Nat.le_of_ble_eq_true rfl) dX10_guest_17 (fun r12 μ10 i13 n11 h => ?_)
    have h := h i13 n11
    refine x_callVi (As := [iV r12]) (rest := []) cal_X10_granted ins_X10_granted sel_X10_granted ly0 (by decide) rfl (xX10_granted x r12 _ _ i13 h) rfl ml_X10_140 (xRoom (Nat.le_of_ble_eq_true rfl)) (Nat.le_of_ble_eq_true rfl) dX10_guest_20 (fun r16 μ14 i17 n15 h => ?_)
    have h := h i17 n15
    refine x_goto (tgt := 31) dX10_guest_23 (by decide) ?_
    exact x_iret h i17 rfl dX10_guest_31
set_option maxRecDepth 100000 in
set_option maxHeartbeats 4000000 in
theorem xX10_size (x : xX) (p1 : Int) (μ : xM) (Q : Int → xM → Prop) (hp1 : xIn p1) (h : tX10_size p1 μ Q) : xMet x 1 yX10_size cX10_size 2 (some .int) [.ref (x.2.2.1 + 0), iV p1] μ (xQi x Q) := by
  refine xMet_of (by decide +kernel) (Nat.le_of_ble_eq_true rfl) ?_
  show xW x (xRm 1, RX10, cX10_size, 2, (some .int), fun _ _ => True) (xQi x Q) 0 [(0, .ref (x.2.2.1 + 0)), (1, iV p1)] [] μ
  refine x_ran (fun n0 => ?_)
  have h := h n0 hp1
  refine x_iload_n 1 rfl dX10_size_0 ?_
  by_cases k2 : p1 = 0
  · refine x_tabIn (tgt := 56) 0 hp1 (by omega) (by decide) rfl (by decide) dX10_size_1 ?_
    have h := h.1 k2
    refine x_aload_n 0 rfl dX10_size_56 ?_
    refine x_getR (j := 2) (r := 39) ly0 (by decide) rfl rfl (by decide) inT10 fl_X10_25 dX10_size_57 ?_
    refine x_getI (j := 0) ly39 (by decide) rfl rfl (by decide) inT2 fl_X10_203 dX10_size_60 (fun r1 => ?_)
    exact x_iret h r1 rfl dX10_size_63
  by_cases k4 : p1 = 1
  · refine x_tabIn (tgt := 64) 1 hp1 (by omega) (by decide) rfl (by decide) dX10_size_1 ?_
    have h := h.2.1 k4
    refine x_aload_n 0 rfl dX10_size_64 ?_
    refine x_getR (j := 2) (r := 39) ly0 (by decide) rfl rfl (by decide) inT10 fl_X10_25 dX10_size_65 ?_
    refine x_getI (j := 1) ly39 (by decide) rfl rfl (by decide) inT2 fl_X10_361 dX10_size_68 (fun r3 => ?_)
    exact x_iret h r3 rfl dX10_size_71
  by_cases k6 : p1 = 2
  · refine x_tabIn (tgt := 72) 2 hp1 (by omega) (by decide) rfl (by decide) dX10_size_1 ?_
    have h := h.2.2.1 k6
    refine x_aload_n 0 rfl dX10_size_72 ?_
    refine x_getR (j := 2) (r := 39) ly0 (by decide) rfl rfl (by decide) inT10 fl_X10_25 dX10_size_73 ?_
    refine x_getI (j := 3) ly39 (by decide) rfl rfl (by decide) inT2 fl_X10_364 dX10_size_76 (fun r5 => ?_)
    exact x_iret h r5 rfl dX10_size_79
  by_cases k8 : p1 = 3
  · refine x_tabIn (tgt := 80) 3 hp1 (by omega) (by decide) rfl (by decide) dX10_size_1 ?_
    have h := h.2.2.2.1 k8
    refine x_aload_n 0 rfl dX10_size_80 ?_
    refine x_getR (j := 2) (r := 39) ly0 (by decide) rfl rfl (by decide) inT10 fl_X10_25 dX10_size_81 ?_
    refine x_getI (j := 4) ly39 (by decide) rfl rfl (by decide) inT2 fl_X10_137 dX10_size_84 (fun r7 => ?_)
    exact x_iret h r7 rfl dX10_size_87
  by_cases k10 : p1 = 4
  · refine x_tabIn (tgt := 88) 4 hp1 (by omega) (by decide) rfl (by decide) dX10_size_1 ?_
    have h := h.2.2.2.2.1 k10
    refine x_aload_n 0 rfl dX10_size_88 ?_
    refine x_getR (j := 2) (r := 39) ly0 (by decide) rfl rfl (by decide) inT10 fl_X10_25 dX10_size_89 ?_
    refine x_getI (j := 5) ly39 (by decide) rfl rfl (by decide) inT2 fl_X10_303 dX10_size_92 (fun r9 => ?_)
    exact x_iret h r9 rfl dX10_size_95
  by_cases k12 : p1 = 5
  · refine x_tabIn (tgt := 96) 5 hp1 (by omega) (by decide) rfl (by decide) dX10_size_1 ?_
    have h := h.2.2.2.2.2.1 k12
    refine x_aload_n 0 rfl dX10_size_96 ?_
    refine x_getR (j := 2) (r := 39) ly0 (by decide) rfl rfl (by decide) inT10 fl_X10_25 dX10_size_97 ?_
    refine x_getI (j := 6) ly39 (by decide) rfl rfl (by decide) inT2 fl_X10_330 dX10_size_100 (fun r11 => ?_)
    exact x_iret h r11 rfl dX10_size_103
  by_cases k14 : p1 = 6
  · refine x_tabIn (tgt := 104) 6 hp1 (by omega) (by decide) rfl (by decide) dX10_size_1 ?_
    have h := h.2.2.2.2.2.2.1 k14
    refine x_aload_n 0 rfl dX10_size_104 ?_
    refine x_getR (j := 14) (r := 249) ly0 (by decide) rfl rfl (by decide) inT10 fl_X10_97 dX10_size_105 ?_
    refine x_getI (j := 1) ly249 (by decide) rfl rfl (by decide) inT4 fl_X10_243 dX10_size_108 (fun r13 => ?_)
    exact x_iret h r13 rfl dX10_size_111
  by_cases k16 : p1 = 7
  · refine x_tabIn (tgt := 112) 7 hp1 (by omega) (by decide) rfl (by decide) dX10_size_1 ?_
    have h := h.2.2.2.2.2.2.2.1 k16
    refine x_aload_n 0 rfl dX10_size_112 ?_
    refine x_getR (j := 14) (r := 249) ly0 (by decide) rfl rfl (by decide) inT10 fl_X10_97 dX10_size_113 ?_
    refine x_getI (j := 0) ly249 (by decide) rfl rfl (by decide) inT4 fl_X10_345 dX10_size_116 (fun r15 => ?_)
    exact x_iret h r15 rfl dX10_size_119
  by_cases k18 : p1 = 8
  · refine x_tabIn (tgt := 120) 8 hp1 (by omega) (by decide) rfl (by decide) dX10_size_1 ?_
    have h := h.2.2.2.2.2.2.2.2.1 k18
    refine x_aload_n 0 rfl dX10_size_120 ?_
    refine x_getI (j := 17) ly0 (by decide) rfl rfl (by decide) inT10 fl_X10_325 dX10_size_121 (fun r17 => ?_)
    exact x_iret h r17 rfl dX10_size_124
  by_cases k20 : p1 = 9
  · refine x_tabIn (tgt := 125) 9 hp1 (by omega) (by decide) rfl (by decide) dX10_size_1 ?_
    have h := h.2.2.2.2.2.2.2.2.2.1 k20
    refine x_aload_n 0 rfl dX10_size_125 ?_
    refine x_getR (j := 1) (r := 35) ly0 (by decide) rfl rfl (by decide) inT10 fl_X10_21 dX10_size_126 ?_
    refine x_getI (j := 0) ly35 (by decide) rfl rfl (by decide) inT5 fl_X10_112 dX10_size_129 (fun r19 => ?_)
    exact x_iret h r19 rfl dX10_size_132
  have k21 : p1 < 0 ∨ 9 < p1 := by omega
  refine x_tabOut (tgt := 133) hp1 k21 (by decide) dX10_size_1 ?_
  have h := h.2.2.2.2.2.2.2.2.2.2 k21
  refine x_iconst dX10_size_133 ?_
  exact x_iret h ⟨by decide, by decide⟩ rfl dX10_size_134
set_option maxRecDepth 100000 in
set_option maxHeartbeats 4000000 in
theorem xX10_trouble (x : xX)  (μ : xM) (Q : Int → xM → Prop)  (h : tX10_trouble  μ Q) : xMet x 1 yX10_trouble cX10_trouble 1 (some .int) [.ref (x.2.2.1 + 0)] μ (xQi x Q) := by
  refine xMet_of (by decide +kernel) (Nat.le_of_ble_eq_true rfl) ?_
  show xW x (xRm 1, RX10, cX10_trouble, 1, (some .int), fun _ _ => True) (xQi x Q) 0 [(0, .ref (x.2.2.1 + 0))] [] μ
  refine x_ran (fun n0 => ?_)
  have h := h n0 
  refine x_aload_n 0 rfl dX10_trouble_0 ?_
  refine x_getI (j := 18) ly0 (by decide) rfl rfl (by decide) inT10 fl_X10_146 dX10_trouble_1 (fun r1 => ?_)
  exact x_iret h r1 rfl dX10_trouble_4
