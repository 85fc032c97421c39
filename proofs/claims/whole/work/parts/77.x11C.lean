set_option maxRecDepth 100000 in
set_option maxHeartbeats 4000000 in
theorem xX10_gains (x : xX) (p1 : Int) (μ : xM) (Q : Int → xM → Prop) (hp1 : xIn p1) (h : tX10_gains p1 μ Q) : xMet x 21 yX10_gains cX10_gains 2 (some .int) [.ref (x.2.2.1 + 0), iV p1] μ (xQi x Q) := by
  refine xMet_of (by decide +kernel) (Nat.le_of_ble_eq_true rfl) ?_
  show xW x (xRm 21, RX10, cX10_gains, 2, (some .int), fun _ _ => True) (xQi x Q) 0 [(0, .ref (x.2.2.1 + 0)), (1, iV p1)] [] μ
  refine x_ran (fun n0 => ?_)
  have h := h n0 hp1
  refine x_aload_n 0 rfl dX10_gains_0 ?_
  refine x_getR (j := 2) (r := 39) ly0 (by decide) rfl rfl (by decide) inT10 fl_X10_25 dX10_gains_1 ?_
  refine x_callVz (As := []) (rest := []) cal_X2_isOpen ins_X2_isOpen sel_X2_isOpen ly39 (by decide) rfl (xX2_isOpen x 39 _ _ isHouse_39 h) rfl ml_X10_186 (xRoom (Nat.le_of_ble_eq_true rfl)) (Nat.le_of_ble_eq_true rfl) dX10_gains_4 (fun r3 μ1 i4 n2 h => ?_)
  have h := h i4 n2
  refine x_ifne (tgt := 16) (xIz i4)  dX10_gains_7 (by decide) (fun k5 => ?_) (fun k5 => ?_)
  · have h := h.1 (xz1 i4 k5)
    refine x_iload_n 1 rfl dX10_gains_16 ?_
    refine x_iflt (tgt := 26) hp1  dX10_gains_17 (by decide) (fun k6 => ?_) (fun k6 => ?_)
    · have h := h.1 k6
      refine x_aload_n 0 rfl dX10_gains_26 ?_
      refine x_iconst dX10_gains_27 ?_
      refine x_callVi (As := [iV 2]) (rest := []) cal_X10_refused ins_X10_refused sel_X10_refused ly0 (by decide) rfl (xX10_refused x 2 _ _ ⟨by decide, by decide⟩ h) rfl ml_X10_116 (xRoom (Nat.le_of_ble_eq_true rfl)) (Nat.le_of_ble_eq_true rfl) dX10_gains_28 (fun r9 μ7 i10 n8 h => ?_)
      have h := h i10 n8
      exact x_iret h i10 rfl dX10_gains_31
    · have h := h.2 k6
      refine x_iload_n 1 rfl dX10_gains_20 ?_
      refine x_bipush dX10_gains_21 (by decide) ?_
      refine x_icmplt (tgt := 32) hp1 ⟨by decide, by decide⟩ dX10_gains_23 (by decide) (fun k11 => ?_) (fun k11 => ?_)
      · have h := h.1 k11
        refine x_aload_n 0 rfl dX10_gains_32 ?_
        refine x_getR (j := 9) (r := 231) ly0 (by decide) rfl rfl (by decide) inT10 fl_X10_60 dX10_gains_33 ?_
        refine x_iload_n 1 rfl dX10_gains_36 ?_
        obtain ⟨c12, h⟩ := h
        refine x_iald ly231 c12.1 c12.2 hp1 (by decide) dX10_gains_37 (fun r13 => ?_)
        refine x_ifge (tgt := 87) r13  dX10_gains_38 (by decide) (fun k14 => ?_) (fun k14 => ?_)
        · have h := h.1 k14
          refine x_aload_n 0 rfl dX10_gains_87 ?_
          refine x_aload_n 0 rfl dX10_gains_88 ?_
          refine x_getR (j := 9) (r := 231) ly0 (by decide) rfl rfl (by decide) inT10 fl_X10_60 dX10_gains_89 ?_
          refine x_iload_n 1 rfl dX10_gains_92 ?_
          refine x_iald ly231 c12.1 c12.2 hp1 (by decide) dX10_gains_93 (fun r15 => ?_)
          refine x_callVi (As := [iV (μ1 231 p1.toNat)]) (rest := []) cal_X10_granted ins_X10_granted sel_X10_granted ly0 (by decide) rfl (xX10_granted x (μ1 231 p1.toNat) _ _ r15 h) rfl ml_X10_140 (xRoom (Nat.le_of_ble_eq_true rfl)) (Nat.le_of_ble_eq_true rfl) dX10_gains_94 (fun r18 μ16 i19 n17 h => ?_)
          have h := h i19 n17
          exact x_iret h i19 rfl dX10_gains_97
        · have h := h.2 k14
          refine x_aload_n 0 rfl dX10_gains_41 ?_
          refine x_getR (j := 8) (r := 226) ly0 (by decide) rfl rfl (by decide) inT10 fl_X10_57 dX10_gains_42 ?_
          refine x_iload_n 1 rfl dX10_gains_45 ?_
          refine x_callVv (As := [iV p1]) (rest := []) cal_X9_gather ins_X9_gather sel_X9_gather ly226 (by decide) rfl (xX9_gather x 226 p1 _ _ isSurvey_226 hp1 h) rfl ml_X10_224 (xRoom (Nat.le_of_ble_eq_true rfl)) (Nat.le_of_ble_eq_true rfl) dX10_gains_46 (fun μ20 n21 h => ?_)
          have h := h n21
          refine x_aload_n 0 rfl dX10_gains_49 ?_
          refine x_aload_n 0 rfl dX10_gains_50 ?_
          refine x_getR (j := 8) (r := 226) ly0 (by decide) rfl rfl (by decide) inT10 fl_X10_57 dX10_gains_51 ?_
          refine x_bipush dX10_gains_54 (by decide) ?_
          refine x_callVv (As := [.ref (x.2.2.1 + 226), iV 6]) (rest := []) cal_X10_offerGood ins_X10_offerGood sel_X10_offerGood ly0 (by decide) rfl (xX10_offerGood x 226 6 _ _ isSurvey_226 ⟨by decide, by decide⟩ h) rfl ml_X10_227 (xRoom (Nat.le_of_ble_eq_true rfl)) (Nat.le_of_ble_eq_true rfl) dX10_gains_56 (fun μ22 n23 h => ?_)
          have h := h n23
          refine x_aload_n 0 rfl dX10_gains_59 ?_
          refine x_getR (j := 8) (r := 226) ly0 (by decide) rfl rfl (by decide) inT10 fl_X10_57 dX10_gains_60 ?_
          refine x_callVv (As := []) (rest := []) cal_X9_findPlans ins_X9_findPlans sel_X9_findPlans ly226 (by decide) rfl (xX9_findPlans x 226 _ _ isSurvey_226 h) rfl ml_X10_231 (xRoom (Nat.le_of_ble_eq_true rfl)) (Nat.le_of_ble_eq_true rfl) dX10_gains_63 (fun μ24 n25 h => ?_)
          have h := h n25
          refine x_aload_n 0 rfl dX10_gains_66 ?_
          refine x_getR (j := 9) (r := 231) ly0 (by decide) rfl rfl (by decide) inT10 fl_X10_60 dX10_gains_67 ?_
          refine x_iload_n 1 rfl dX10_gains_70 ?_
          refine x_aload_n 0 rfl dX10_gains_71 ?_
          refine x_getR (j := 8) (r := 226) ly0 (by decide) rfl rfl (by decide) inT10 fl_X10_57 dX10_gains_72 ?_
          refine x_getI (j := 1) ly226 (by decide) rfl rfl (by decide) inT9 fl_X10_197 dX10_gains_75 (fun r26 => ?_)
          refine x_aload_n 0 rfl dX10_gains_78 ?_
          refine x_callVr (As := []) (rest := [iV (μ24 226 1), iV p1, .ref (x.2.2.1 + 231)]) cal_X10_bestPlan ins_X10_bestPlan sel_X10_bestPlan ly0 (by decide) rfl (xX10_bestPlan x  _ _  h) rfl ml_X10_193 (xRoom (Nat.le_of_ble_eq_true rfl)) (Nat.le_of_ble_eq_true rfl) dX10_gains_79 (fun r29 μ27 n28 h => ?_)
          obtain ⟨g30, hwg30⟩ := h n28
          subst g30
          have h := hwg30
          refine x_getI (j := 1) ly211 (by decide) rfl rfl (by decide) inT9 fl_X10_197 dX10_gains_82 (fun r31 => ?_)
          refine x_isub dX10_gains_85 ?_
          obtain ⟨c32, h⟩ := h
          refine x_iast ly231 c12.1 c12.2 hp1 c32 (by decide) dX10_gains_86 (fun μ33 e35 n34 => ?_)
          have h := h μ33 e35 n34
          refine x_aload_n 0 rfl dX10_gains_87 ?_
          refine x_aload_n 0 rfl dX10_gains_88 ?_
          refine x_getR (j := 9) (r := 231) ly0 (by decide) rfl rfl (by decide) inT10 fl_X10_60 dX10_gains_89 ?_
          refine x_iload_n 1 rfl dX10_gains_92 ?_
          refine x_iald ly231 c12.1 c12.2 hp1 (by decide) dX10_gains_93 (fun r36 => ?_)
          refine x_callVi (As := [iV (μ33 231 p1.toNat)]) (rest := []) cal_X10_granted ins_X10_granted sel_X10_granted ly0 (by decide) rfl (xX10_granted x (μ33 231 p1.toNat) _ _ r36 h) rfl ml_X10_140 (xRoom (Nat.le_of_ble_eq_true rfl)) (Nat.le_of_ble_eq_true rfl) dX10_gains_94 (fun r39 μ37 i40 n38 h => ?_)
          have h := h i40 n38
          exact x_iret h i40 rfl dX10_gains_97
      · have h := h.2 k11
        refine x_aload_n 0 rfl dX10_gains_26 ?_
        refine x_iconst dX10_gains_27 ?_
        refine x_callVi (As := [iV 2]) (rest := []) cal_X10_refused ins_X10_refused sel_X10_refused ly0 (by decide) rfl (xX10_refused x 2 _ _ ⟨by decide, by decide⟩ h) rfl ml_X10_116 (xRoom (Nat.le_of_ble_eq_true rfl)) (Nat.le_of_ble_eq_true rfl) dX10_gains_28 (fun r43 μ41 i44 n42 h => ?_)
        have h := h i44 n42
        exact x_iret h i44 rfl dX10_gains_31
  · have h := h.2 k5
    refine x_aload_n 0 rfl dX10_gains_10 ?_
    refine x_iconst dX10_gains_11 ?_
    refine x_callVi (As := [iV 1]) (rest := []) cal_X10_refused ins_X10_refused sel_X10_refused ly0 (by decide) rfl (xX10_refused x 1 _ _ ⟨by decide, by decide⟩ h) rfl ml_X10_116 (xRoom (Nat.le_of_ble_eq_true rfl)) (Nat.le_of_ble_eq_true rfl) dX10_gains_12 (fun r47 μ45 i48 n46 h => ?_)
    have h := h i48 n46
    exact x_iret h i48 rfl dX10_gains_15
set_option maxRecDepth 100000 in
set_option maxHeartbeats 4000000 in
theorem xX10_isHost (x : xX) (p1 : Int) (μ : xM) (Q : Int → xM → Prop) (hp1 : xIn p1) (h : tX10_isHost p1 μ Q) : xMet x 1 yX10_isHost cX10_isHost 2 (some .boolean) [.ref (x.2.2.1 + 0), iV p1] μ (xQz x Q) := by
  refine xMet_of (by decide +kernel) (Nat.le_of_ble_eq_true rfl) ?_
  show xW x (xRm 1, RX10, cX10_isHost, 2, (some .boolean), fun _ _ => True) (xQz x Q) 0 [(0, .ref (x.2.2.1 + 0)), (1, iV p1)] [] μ
  refine x_ran (fun n0 => ?_)
  have h := h n0 hp1
  refine x_iload_n 1 rfl dX10_isHost_0 ?_
  refine x_iflt (tgt := 13) hp1  dX10_isHost_1 (by decide) (fun k1 => ?_) (fun k1 => ?_)
  · have h := h.1 k1
    refine x_iconst dX10_isHost_13 ?_
    exact x_zret h (Or.inl rfl) rfl dX10_isHost_14
  · have h := h.2 k1
    refine x_iload_n 1 rfl dX10_isHost_4 ?_
    refine x_iconst dX10_isHost_5 ?_
    refine x_icmpgt (tgt := 13) hp1 ⟨by decide, by decide⟩ dX10_isHost_6 (by decide) (fun k2 => ?_) (fun k2 => ?_)
    · have h := h.1 k2
      refine x_iconst dX10_isHost_13 ?_
      exact x_zret h (Or.inl rfl) rfl dX10_isHost_14
    · have h := h.2 k2
      refine x_iconst dX10_isHost_9 ?_
      refine x_goto (tgt := 14) dX10_isHost_10 (by decide) ?_
      exact x_zret h (Or.inr rfl) rfl dX10_isHost_14
set_option maxRecDepth 100000 in
set_option maxHeartbeats 4000000 in
theorem xX10_denied (x : xX) (p1 : Int) (μ : xM) (Q : Int → xM → Prop) (hp1 : xIn p1) (h : tX10_denied p1 μ Q) : xMet x 1 yX10_denied cX10_denied 2 (some .boolean) [.ref (x.2.2.1 + 0), iV p1] μ (xQz x Q) := by
  refine xMet_of (by decide +kernel) (Nat.le_of_ble_eq_true rfl) ?_
  show xW x (xRm 1, RX10, cX10_denied, 2, (some .boolean), fun _ _ => True) (xQz x Q) 0 [(0, .ref (x.2.2.1 + 0)), (1, iV p1)] [] μ
  refine x_ran (fun n0 => ?_)
  have h := h n0 hp1
  refine x_aload_n 0 rfl dX10_denied_0 ?_
  refine x_iload_n 1 rfl dX10_denied_1 ?_
  refine x_putI (j := 18) ly0 (by decide) rfl rfl (by decide) inT10 fl_X10_146 tyX10 tyX10_ok nmX10 rfl hp1 (by decide +kernel) dX10_denied_2 (fun μ1 e3 n2 => ?_)
  have h := h μ1 e3 n2
  refine x_iconst dX10_denied_5 ?_
  exact x_zret h (Or.inl rfl) rfl dX10_denied_6
set_option maxRecDepth 100000 in
set_option maxHeartbeats 4000000 in
theorem xX10_allowed (x : xX)  (μ : xM) (Q : Int → xM → Prop)  (h : tX10_allowed  μ Q) : xMet x 1 yX10_allowed cX10_allowed 1 (some .boolean) [.ref (x.2.2.1 + 0)] μ (xQz x Q) := by
  refine xMet_of (by decide +kernel) (Nat.le_of_ble_eq_true rfl) ?_
  show xW x (xRm 1, RX10, cX10_allowed, 1, (some .boolean), fun _ _ => True) (xQz x Q) 0 [(0, .ref (x.2.2.1 + 0))] [] μ
  refine x_ran (fun n0 => ?_)
  have h := h n0 
  refine x_aload_n 0 rfl dX10_allowed_0 ?_
  refine x_iconst dX10_allowed_1 ?_
  refine x_putI (j := 18) ly0 (by decide) rfl rfl (by decide) inT10 fl_X10_146 tyX10 tyX10_ok nmX10 rfl ⟨by decide, by decide⟩ (by decide +kernel) dX10_allowed_2 (fun μ1 e3 n2 => ?_)
  have h := h μ1 e3 n2
  refine x_iconst dX10_allowed_5 ?_
  exact x_zret h (Or.inr rfl) rfl dX10_allowed_6
set_option maxRecDepth 100000 in
set_option maxHeartbeats 4000000 in
theorem xX10_night (x : xX) (p1 : Int) (μ : xM) (Q : Int → xM → Prop) (hp1 : xIn p1) (h : tX10_night p1 μ Q) : xMet x 3 yX10_night cX10_night 2 (some .boolean) [.ref (x.2.2.1 + 0), iV p1] μ (xQz x Q) := by
  refine xMet_of (by decide +kernel) (Nat.le_of_ble_eq_true rfl) ?_
  show xW x (xRm 3, RX10, cX10_night, 2, (some .boolean), fun _ _ => True) (xQz x Q) 0 [(0, .ref (x.2.2.1 + 0)), (1, iV p1)] [] μ
  refine x_ran (fun n0 => ?_)
  have h := h n0 hp1
  refine x_aload_n 0 rfl dX10_night_0 ?_
  refine x_getR (j := 2) (r := 39) ly0 (by decide) rfl rfl (by decide) inT10 fl_X10_25 dX10_night_1 ?_
  refine x_callVz (As := []) (rest := []) cal_X2_isOpen ins_X2_isOpen sel_X2_isOpen ly39 (by decide) rfl (xX2_isOpen x 39 _ _ isHouse_39 h) rfl ml_X10_186 (xRoom (Nat.le_of_ble_eq_true rfl)) (Nat.le_of_ble_eq_true rfl) dX10_night_4 (fun r3 μ1 i4 n2 h => ?_)
  have h := h i4 n2
  refine x_ifeq (tgt := 18) (xIz i4)  dX10_night_7 (by decide) (fun k5 => ?_) (fun k5 => ?_)
  · have h := h.1 k5
    refine x_aload_n 0 rfl dX10_night_18 ?_
    refine x_iconst dX10_night_19 ?_
    refine x_callVz (As := [iV 1]) (rest := []) cal_X10_denied ins_X10_denied sel_X10_denied ly0 (by decide) rfl (xX10_denied x 1 _ _ ⟨by decide, by decide⟩ h) rfl ml_X10_237 (xRoom (Nat.le_of_ble_eq_true rfl)) (Nat.le_of_ble_eq_true rfl) dX10_night_20 (fun r8 μ6 i9 n7 h => ?_)
    have h := h i9 n7
    exact x_zret h i9 rfl dX10_night_23
  · have h := h.2 (xz1 i4 k5)
    refine x_aload_n 0 rfl dX10_night_10 ?_
    refine x_iload_n 1 rfl dX10_night_11 ?_
    refine x_callVz (As := [iV p1]) (rest := []) cal_X10_isHost ins_X10_isHost sel_X10_isHost ly0 (by decide) rfl (xX10_isHost x p1 _ _ hp1 h) rfl ml_X10_234 (xRoom (Nat.le_of_ble_eq_true rfl)) (Nat.le_of_ble_eq_true rfl) dX10_night_12 (fun r12 μ10 i13 n11 h => ?_)
    have h := h i13 n11
    refine x_ifne (tgt := 24) (xIz i13)  dX10_night_15 (by decide) (fun k14 => ?_) (fun k14 => ?_)
    · have h := h.1 (xz1 i13 k14)
      refine x_aload_n 0 rfl dX10_night_24 ?_
      refine x_getR (j := 14) (r := 249) ly0 (by decide) rfl rfl (by decide) inT10 fl_X10_97 dX10_night_25 ?_
      refine x_iload_n 1 rfl dX10_night_28 ?_
      refine x_callVv (As := [iV p1]) (rest := []) cal_X4_begin ins_X4_begin sel_X4_begin ly249 (by decide) rfl (xX4_begin x 249 p1 _ _ isNight_249 hp1 h) rfl ml_X10_130 (xRoom (Nat.le_of_ble_eq_true rfl)) (Nat.le_of_ble_eq_true rfl) dX10_night_29 (fun μ15 n16 h => ?_)
      have h := h n16
      refine x_aload_n 0 rfl dX10_night_32 ?_
      refine x_callVz (As := []) (rest := []) cal_X10_allowed ins_X10_allowed sel_X10_allowed ly0 (by decide) rfl (xX10_allowed x  _ _  h) rfl ml_X10_240 (xRoom (Nat.le_of_ble_eq_true rfl)) (Nat.le_of_ble_eq_true rfl) dX10_night_33 (fun r19 μ17 i20 n18 h => ?_)
      have h := h i20 n18
      exact x_zret h i20 rfl dX10_night_36
    · have h := h.2 k14
      refine x_aload_n 0 rfl dX10_night_18 ?_
      refine x_iconst dX10_night_19 ?_
      refine x_callVz (As := [iV 1]) (rest := []) cal_X10_denied ins_X10_denied sel_X10_denied ly0 (by decide) rfl (xX10_denied x 1 _ _ ⟨by decide, by decide⟩ h) rfl ml_X10_237 (xRoom (Nat.le_of_ble_eq_true rfl)) (Nat.le_of_ble_eq_true rfl) dX10_night_20 (fun r23 μ21 i24 n22 h => ?_)
      have h := h i24 n22
      exact x_zret h i24 rfl dX10_night_23
set_option maxRecDepth 100000 in
set_option maxHeartbeats 4000000 in
theorem xX10_come (x : xX) (p1 : Int) (μ : xM) (Q : Int → xM → Prop) (hp1 : xIn p1) (h : tX10_come p1 μ Q) : xMet x 34 yX10_come cX10_come 4 (some .int) [.ref (x.2.2.1 + 0), iV p1] μ (xQi x Q) := by
  refine xMet_of (by decide +kernel) (Nat.le_of_ble_eq_true rfl) ?_
  show xW x (xRm 34, RX10, cX10_come, 4, (some .int), fun _ _ => True) (xQi x Q) 0 [(0, .ref (x.2.2.1 + 0)), (1, iV p1)] [] μ
  refine x_ran (fun n0 => ?_)
  have h := h n0 hp1
  refine x_aload_n 0 rfl dX10_come_0 ?_
  refine x_getR (j := 2) (r := 39) ly0 (by decide) rfl rfl (by decide) inT10 fl_X10_25 dX10_come_1 ?_
  refine x_callVz (As := []) (rest := []) cal_X2_isOpen ins_X2_isOpen sel_X2_isOpen ly39 (by decide) rfl (xX2_isOpen x 39 _ _ isHouse_39 h) rfl ml_X10_186 (xRoom (Nat.le_of_ble_eq_true rfl)) (Nat.le_of_ble_eq_true rfl) dX10_come_4 (fun r3 μ1 i4 n2 h => ?_)
  have h := h i4 n2
  refine x_ifne (tgt := 16) (xIz i4)  dX10_come_7 (by decide) (fun k5 => ?_) (fun k5 => ?_)
  · have h := h.1 (xz1 i4 k5)
    refine x_iload_n 1 rfl dX10_come_16 ?_
    refine x_iconst dX10_come_17 ?_
    refine x_icmplt (tgt := 27) hp1 ⟨by decide, by decide⟩ dX10_come_18 (by decide) (fun k6 => ?_) (fun k6 => ?_)
    · have h := h.1 k6
      refine x_aload_n 0 rfl dX10_come_27 ?_
      refine x_iconst dX10_come_28 ?_
      refine x_callVi (As := [iV 2]) (rest := []) cal_X10_refused ins_X10_refused sel_X10_refused ly0 (by decide) rfl (xX10_refused x 2 _ _ ⟨by decide, by decide⟩ h) rfl ml_X10_116 (xRoom (Nat.le_of_ble_eq_true rfl)) (Nat.le_of_ble_eq_true rfl) dX10_come_29 (fun r9 μ7 i10 n8 h => ?_)
      have h := h i10 n8
      exact x_iret h i10 rfl dX10_come_32
    · have h := h.2 k6
      refine x_iload_n 1 rfl dX10_come_21 ?_
      refine x_bipush dX10_come_22 (by decide) ?_
      refine x_icmple (tgt := 33) hp1 ⟨by decide, by decide⟩ dX10_come_24 (by decide) (fun k11 => ?_) (fun k11 => ?_)
      · have h := h.1 k11
        refine x_aload_n 0 rfl dX10_come_33 ?_
        refine x_getR (j := 14) (r := 249) ly0 (by decide) rfl rfl (by decide) inT10 fl_X10_97 dX10_come_34 ?_
        refine x_getI (j := 1) ly249 (by decide) rfl rfl (by decide) inT4 fl_X10_243 dX10_come_37 (fun r12 => ?_)
        refine x_istore_n [(2, iV (μ1 249 1)), (0, .ref (x.2.2.1 + 0)), (1, iV p1)] dX10_come_40 (show 2 < 4 by decide) rfl ?_
        refine x_iload_n 0 rfl dX10_come_41 ?_
        refine x_aload_n 1 rfl dX10_come_42 ?_
        refine x_getR (j := 2) (r := 39) ly0 (by decide) rfl rfl (by decide) inT10 fl_X10_25 dX10_come_43 ?_
        refine x_getI (j := 4) ly39 (by decide) rfl rfl (by decide) inT2 fl_X10_137 dX10_come_46 (fun r13 => ?_)
        refine x_icmplt (tgt := 59) r12 r13 dX10_come_49 (by decide) (fun k14 => ?_) (fun k14 => ?_)
        · have h := h.1 k14
          refine x_iconst dX10_come_59 ?_
          refine x_istore_n [(3, iV 0), (2, iV (μ1 249 1)), (0, .ref (x.2.2.1 + 0)), (1, iV p1)] dX10_come_60 (show 3 < 4 by decide) rfl ?_
          refine x_sub [2, 3, 1, 0] rfl ?_
          refine x_loop1 (fun l3_15 => [(0, .ref (x.2.2.1 + 0)), (1, iV p1), (2, iV (μ1 249 1)), (3, iV l3_15)]) h (fun J61 l3_15 μ16 hJ61 h n17 => ?_)
          refine x_iload_n 3 rfl dX10_come_61 ?_
          refine x_iload_n 1 rfl dX10_come_62 ?_
          obtain ⟨c18, h⟩ := h
          refine x_icmpge (tgt := 100) c18 hp1 dX10_come_63 (by decide) (fun k19 => ?_) (fun k19 => ?_)
          · have h := h.1 k19
            refine x_aload_n 0 rfl dX10_come_100 ?_
            refine x_aload_n 0 rfl dX10_come_101 ?_
            refine x_getR (j := 14) (r := 249) ly0 (by decide) rfl rfl (by decide) inT10 fl_X10_97 dX10_come_102 ?_
            refine x_getI (j := 1) ly249 (by decide) rfl rfl (by decide) inT4 fl_X10_243 dX10_come_105 (fun r20 => ?_)
            refine x_iload_n 2 rfl dX10_come_108 ?_
            refine x_isub dX10_come_109 ?_
            obtain ⟨c21, h⟩ := h
            refine x_callVi (As := [iV ((μ16 249 1) - (μ1 249 1))]) (rest := []) cal_X10_granted ins_X10_granted sel_X10_granted ly0 (by decide) rfl (xX10_granted x ((μ16 249 1) - (μ1 249 1)) _ _ c21 h) rfl ml_X10_140 (xRoom (Nat.le_of_ble_eq_true rfl)) (Nat.le_of_ble_eq_true rfl) dX10_come_110 (fun r24 μ22 i25 n23 h => ?_)
            have h := h i25 n23
            exact x_iret h i25 rfl dX10_come_113
          · have h := h.2 k19
            refine x_aload_n 0 rfl dX10_come_66 ?_
            refine x_getR (j := 14) (r := 249) ly0 (by decide) rfl rfl (by decide) inT10 fl_X10_97 dX10_come_67 ?_
            refine x_getI (j := 1) ly249 (by decide) rfl rfl (by decide) inT4 fl_X10_243 dX10_come_70 (fun r26 => ?_)
            refine x_aload_n 0 rfl dX10_come_73 ?_
            refine x_getR (j := 2) (r := 39) ly0 (by decide) rfl rfl (by decide) inT10 fl_X10_25 dX10_come_74 ?_
            refine x_getI (j := 4) ly39 (by decide) rfl rfl (by decide) inT2 fl_X10_137 dX10_come_77 (fun r27 => ?_)
            refine x_icmpge (tgt := 100) r26 r27 dX10_come_80 (by decide) (fun k28 => ?_) (fun k28 => ?_)
            · have h := h.1 k28
              refine x_aload_n 0 rfl dX10_come_100 ?_
              refine x_aload_n 0 rfl dX10_come_101 ?_
              refine x_getR (j := 14) (r := 249) ly0 (by decide) rfl rfl (by decide) inT10 fl_X10_97 dX10_come_102 ?_
              refine x_getI (j := 1) ly249 (by decide) rfl rfl (by decide) inT4 fl_X10_243 dX10_come_105 (fun r29 => ?_)
              refine x_iload_n 2 rfl dX10_come_108 ?_
              refine x_isub dX10_come_109 ?_
              obtain ⟨c30, h⟩ := h
              refine x_callVi (As := [iV ((μ16 249 1) - (μ1 249 1))]) (rest := []) cal_X10_granted ins_X10_granted sel_X10_granted ly0 (by decide) rfl (xX10_granted x ((μ16 249 1) - (μ1 249 1)) _ _ c30 h) rfl ml_X10_140 (xRoom (Nat.le_of_ble_eq_true rfl)) (Nat.le_of_ble_eq_true rfl) dX10_come_110 (fun r33 μ31 i34 n32 h => ?_)
              have h := h i34 n32
              exact x_iret h i34 rfl dX10_come_113
            · have h := h.2 k28
              refine x_aload_n 0 rfl dX10_come_83 ?_
              refine x_getR (j := 11) (r := 235) ly0 (by decide) rfl rfl (by decide) inT10 fl_X10_76 dX10_come_84 ?_
              refine x_aload_n 0 rfl dX10_come_87 ?_
              refine x_getR (j := 14) (r := 249) ly0 (by decide) rfl rfl (by decide) inT10 fl_X10_97 dX10_come_88 ?_
              refine x_callVv (As := [.ref (x.2.2.1 + 249)]) (rest := []) cal_X8_receive ins_X8_receive sel_X8_receive ly235 (by decide) rfl (xX8_receive x 249 _ _ isNight_249 h) rfl ml_X10_246 (xRoom (Nat.le_of_ble_eq_true rfl)) (Nat.le_of_ble_eq_true rfl) dX10_come_91 (fun μ35 n36 h => ?_)
              have h := h n36
              refine x_iinc 3 rfl [(3, iV (l3_15 + 1)), (0, .ref (x.2.2.1 + 0)), (1, iV p1), (2, iV (μ1 249 1))] dX10_come_94 (show 3 < 4 by decide) rfl ?_
              refine x_goto (tgt := 61) dX10_come_97 (by decide) ?_
              exact x_sub [1, 2, 3, 0] rfl (hJ61 _ _ h)
        · have h := h.2 k14
          refine x_aload_n 1 rfl dX10_come_52 ?_
          refine x_bipush dX10_come_53 (by decide) ?_
          refine x_callVi (As := [iV 6]) (rest := []) cal_X10_refused ins_X10_refused sel_X10_refused ly0 (by decide) rfl (xX10_refused x 6 _ _ ⟨by decide, by decide⟩ h) rfl ml_X10_116 (xRoom (Nat.le_of_ble_eq_true rfl)) (Nat.le_of_ble_eq_true rfl) dX10_come_55 (fun r39 μ37 i40 n38 h => ?_)
          have h := h i40 n38
          exact x_iret h i40 rfl dX10_come_58
      · have h := h.2 k11
        refine x_aload_n 0 rfl dX10_come_27 ?_
        refine x_iconst dX10_come_28 ?_
        refine x_callVi (As := [iV 2]) (rest := []) cal_X10_refused ins_X10_refused sel_X10_refused ly0 (by decide) rfl (xX10_refused x 2 _ _ ⟨by decide, by decide⟩ h) rfl ml_X10_116 (xRoom (Nat.le_of_ble_eq_true rfl)) (Nat.le_of_ble_eq_true rfl) dX10_come_29 (fun r43 μ41 i44 n42 h => ?_)
        have h := h i44 n42
        exact x_iret h i44 rfl dX10_come_32
  · have h := h.2 k5
    refine x_aload_n 0 rfl dX10_come_10 ?_
    refine x_iconst dX10_come_11 ?_
    refine x_callVi (As := [iV 1]) (rest := []) cal_X10_refused ins_X10_refused sel_X10_refused ly0 (by decide) rfl (xX10_refused x 1 _ _ ⟨by decide, by decide⟩ h) rfl ml_X10_116 (xRoom (Nat.le_of_ble_eq_true rfl)) (Nat.le_of_ble_eq_true rfl) dX10_come_12 (fun r47 μ45 i48 n46 h => ?_)
    have h := h i48 n46
    exact x_iret h i48 rfl dX10_come_15
set_option maxRecDepth 100000 in
set_option maxHeartbeats 4000000 in
theorem xX10_seat (x : xX) (p1 : Int) (p2 : Int) (μ : xM) (Q : Int → xM → Prop) (hp1 : xIn p1) (hp2 : xIn p2) (h : tX10_seat p1 p2 μ Q) : xMet x 3 yX10_seat cX10_seat 3 (some .boolean) [.ref (x.2.2.1 + 0), iV p1, iV p2] μ (xQz x Q) := by
  refine xMet_of (by decide +kernel) (Nat.le_of_ble_eq_true rfl) ?_
  show xW x (xRm 3, RX10, cX10_seat, 3, (some .boolean), fun _ _ => True) (xQz x Q) 0 [(0, .ref (x.2.2.1 + 0)), (1, iV p1), (2, iV p2)] [] μ
  refine x_ran (fun n0 => ?_)
  have h := h n0 hp1 hp2
  refine x_iload_n 1 rfl dX10_seat_0 ?_
  refine x_iflt (tgt := 26) hp1  dX10_seat_1 (by decide) (fun k1 => ?_) (fun k1 => ?_)
  · have h := h.1 k1
    refine x_aload_n 0 rfl dX10_seat_26 ?_
    refine x_iconst dX10_seat_27 ?_
    refine x_callVz (As := [iV 1]) (rest := []) cal_X10_denied ins_X10_denied sel_X10_denied ly0 (by decide) rfl (xX10_denied x 1 _ _ ⟨by decide, by decide⟩ h) rfl ml_X10_237 (xRoom (Nat.le_of_ble_eq_true rfl)) (Nat.le_of_ble_eq_true rfl) dX10_seat_28 (fun r4 μ2 i5 n3 h => ?_)
    have h := h i5 n3
    exact x_zret h i5 rfl dX10_seat_31
  · have h := h.2 k1
    refine x_iload_n 1 rfl dX10_seat_4 ?_
    refine x_aload_n 0 rfl dX10_seat_5 ?_
    refine x_getR (j := 2) (r := 39) ly0 (by decide) rfl rfl (by decide) inT10 fl_X10_25 dX10_seat_6 ?_
    refine x_getI (j := 0) ly39 (by decide) rfl rfl (by decide) inT2 fl_X10_203 dX10_seat_9 (fun r6 => ?_)
    refine x_icmpge (tgt := 26) hp1 r6 dX10_seat_12 (by decide) (fun k7 => ?_) (fun k7 => ?_)
    · have h := h.1 k7
      refine x_aload_n 0 rfl dX10_seat_26 ?_
      refine x_iconst dX10_seat_27 ?_
      refine x_callVz (As := [iV 1]) (rest := []) cal_X10_denied ins_X10_denied sel_X10_denied ly0 (by decide) rfl (xX10_denied x 1 _ _ ⟨by decide, by decide⟩ h) rfl ml_X10_237 (xRoom (Nat.le_of_ble_eq_true rfl)) (Nat.le_of_ble_eq_true rfl) dX10_seat_28 (fun r10 μ8 i11 n9 h => ?_)
      have h := h i11 n9
      exact x_zret h i11 rfl dX10_seat_31
    · have h := h.2 k7
      refine x_aload_n 0 rfl dX10_seat_15 ?_
      refine x_getR (j := 2) (r := 39) ly0 (by decide) rfl rfl (by decide) inT10 fl_X10_25 dX10_seat_16 ?_
      refine x_iload_n 2 rfl dX10_seat_19 ?_
      refine x_callVz (As := [iV p2]) (rest := []) cal_X2_isWord ins_X2_isWord sel_X2_isWord ly39 (by decide) rfl (xX2_isWord x 39 p2 _ _ isHouse_39 hp2 h) rfl ml_X10_152 (xRoom (Nat.le_of_ble_eq_true rfl)) (Nat.le_of_ble_eq_true rfl) dX10_seat_20 (fun r14 μ12 i15 n13 h => ?_)
      have h := h i15 n13
      refine x_ifne (tgt := 32) (xIz i15)  dX10_seat_23 (by decide) (fun k16 => ?_) (fun k16 => ?_)
      · have h := h.1 (xz1 i15 k16)
        refine x_aload_n 0 rfl dX10_seat_32 ?_
        refine x_getR (j := 14) (r := 249) ly0 (by decide) rfl rfl (by decide) inT10 fl_X10_97 dX10_seat_33 ?_
        refine x_getI (j := 1) ly249 (by decide) rfl rfl (by decide) inT4 fl_X10_243 dX10_seat_36 (fun r17 => ?_)
        refine x_aload_n 0 rfl dX10_seat_39 ?_
        refine x_getR (j := 2) (r := 39) ly0 (by decide) rfl rfl (by decide) inT10 fl_X10_25 dX10_seat_40 ?_
        refine x_getI (j := 4) ly39 (by decide) rfl rfl (by decide) inT2 fl_X10_137 dX10_seat_43 (fun r18 => ?_)
        refine x_icmplt (tgt := 56) r17 r18 dX10_seat_46 (by decide) (fun k19 => ?_) (fun k19 => ?_)
        · have h := h.1 k19
          refine x_aload_n 0 rfl dX10_seat_56 ?_
          refine x_getR (j := 3) (r := 73) ly0 (by decide) rfl rfl (by decide) inT10 fl_X10_31 dX10_seat_57 ?_
          refine x_aload_n 0 rfl dX10_seat_60 ?_
          refine x_getR (j := 14) (r := 249) ly0 (by decide) rfl rfl (by decide) inT10 fl_X10_97 dX10_seat_61 ?_
          refine x_iload_n 1 rfl dX10_seat_64 ?_
          refine x_callVi (As := [iV p1]) (rest := [.ref (x.2.2.1 + 73)]) cal_X4_at ins_X4_at sel_X4_at ly249 (by decide) rfl (xX4_at x 249 p1 _ _ isNight_249 hp1 h) rfl ml_X10_250 (xRoom (Nat.le_of_ble_eq_true rfl)) (Nat.le_of_ble_eq_true rfl) dX10_seat_65 (fun r22 μ20 i23 n21 h => ?_)
          have h := h i23 n21
          refine x_iload_n 2 rfl dX10_seat_68 ?_
          refine x_callVi (As := [iV r22, iV p2]) (rest := []) cal_X1_letterOf ins_X1_letterOf sel_X1_letterOf ly73 (by decide) rfl (xX1_letterOf x r22 p2 _ _ i23 hp2 h) rfl ml_X10_171 (xRoom (Nat.le_of_ble_eq_true rfl)) (Nat.le_of_ble_eq_true rfl) dX10_seat_69 (fun r26 μ24 i27 n25 h => ?_)
          have h := h i27 n25
          refine x_aload_n 0 rfl dX10_seat_72 ?_
          refine x_getR (j := 2) (r := 39) ly0 (by decide) rfl rfl (by decide) inT10 fl_X10_25 dX10_seat_73 ?_
          refine x_aload_n 0 rfl dX10_seat_76 ?_
          refine x_getR (j := 14) (r := 249) ly0 (by decide) rfl rfl (by decide) inT10 fl_X10_97 dX10_seat_77 ?_
          refine x_getI (j := 1) ly249 (by decide) rfl rfl (by decide) inT4 fl_X10_243 dX10_seat_80 (fun r28 => ?_)
          refine x_callVi (As := [iV (μ24 249 1)]) (rest := [iV r26]) cal_X2_firstOf ins_X2_firstOf sel_X2_firstOf ly39 (by decide) rfl (xX2_firstOf x 39 (μ24 249 1) _ _ isHouse_39 r28 h) rfl ml_X10_253 (xRoom (Nat.le_of_ble_eq_true rfl)) (Nat.le_of_ble_eq_true rfl) dX10_seat_83 (fun r31 μ29 i32 n30 h => ?_)
          have h := h i32 n30
          refine x_icmpeq (tgt := 95) i27 i32 dX10_seat_86 (by decide) (fun k33 => ?_) (fun k33 => ?_)
          · have h := h.1 k33
            refine x_aload_n 0 rfl dX10_seat_95 ?_
            refine x_getR (j := 14) (r := 249) ly0 (by decide) rfl rfl (by decide) inT10 fl_X10_97 dX10_seat_96 ?_
            refine x_iload_n 1 rfl dX10_seat_99 ?_
            refine x_iload_n 2 rfl dX10_seat_100 ?_
            refine x_callVv (As := [iV p1, iV p2]) (rest := []) cal_X4_sitDown ins_X4_sitDown sel_X4_sitDown ly249 (by decide) rfl (xX4_sitDown x 249 p1 p2 _ _ isNight_249 hp1 hp2 h) rfl ml_X10_256 (xRoom (Nat.le_of_ble_eq_true rfl)) (Nat.le_of_ble_eq_true rfl) dX10_seat_101 (fun μ34 n35 h => ?_)
            have h := h n35
            refine x_aload_n 0 rfl dX10_seat_104 ?_
            refine x_callVz (As := []) (rest := []) cal_X10_allowed ins_X10_allowed sel_X10_allowed ly0 (by decide) rfl (xX10_allowed x  _ _  h) rfl ml_X10_240 (xRoom (Nat.le_of_ble_eq_true rfl)) (Nat.le_of_ble_eq_true rfl) dX10_seat_105 (fun r38 μ36 i39 n37 h => ?_)
            have h := h i39 n37
            exact x_zret h i39 rfl dX10_seat_108
          · have h := h.2 k33
            refine x_aload_n 0 rfl dX10_seat_89 ?_
            refine x_iconst dX10_seat_90 ?_
            refine x_callVz (As := [iV 5]) (rest := []) cal_X10_denied ins_X10_denied sel_X10_denied ly0 (by decide) rfl (xX10_denied x 5 _ _ ⟨by decide, by decide⟩ h) rfl ml_X10_237 (xRoom (Nat.le_of_ble_eq_true rfl)) (Nat.le_of_ble_eq_true rfl) dX10_seat_91 (fun r42 μ40 i43 n41 h => ?_)
            have h := h i43 n41
            exact x_zret h i43 rfl dX10_seat_94
        · have h := h.2 k19
          refine x_aload_n 0 rfl dX10_seat_49 ?_
          refine x_bipush dX10_seat_50 (by decide) ?_
          refine x_callVz (As := [iV 6]) (rest := []) cal_X10_denied ins_X10_denied sel_X10_denied ly0 (by decide) rfl (xX10_denied x 6 _ _ ⟨by decide, by decide⟩ h) rfl ml_X10_237 (xRoom (Nat.le_of_ble_eq_true rfl)) (Nat.le_of_ble_eq_true rfl) dX10_seat_52 (fun r46 μ44 i47 n45 h => ?_)
          have h := h i47 n45
          exact x_zret h i47 rfl dX10_seat_55
      · have h := h.2 k16
        refine x_aload_n 0 rfl dX10_seat_26 ?_
        refine x_iconst dX10_seat_27 ?_
        refine x_callVz (As := [iV 1]) (rest := []) cal_X10_denied ins_X10_denied sel_X10_denied ly0 (by decide) rfl (xX10_denied x 1 _ _ ⟨by decide, by decide⟩ h) rfl ml_X10_237 (xRoom (Nat.le_of_ble_eq_true rfl)) (Nat.le_of_ble_eq_true rfl) dX10_seat_28 (fun r50 μ48 i51 n49 h => ?_)
        have h := h i51 n49
        exact x_zret h i51 rfl dX10_seat_31
set_option maxRecDepth 100000 in
set_option maxHeartbeats 4000000 in
theorem xX10_stand (x : xX)  (μ : xM) (Q : Int → xM → Prop)  (h : tX10_stand  μ Q) : xMet x 2 yX10_stand cX10_stand 1 (some .boolean) [.ref (x.2.2.1 + 0)] μ (xQz x Q) := by
  refine xMet_of (by decide +kernel) (Nat.le_of_ble_eq_true rfl) ?_
  show xW x (xRm 2, RX10, cX10_stand, 1, (some .boolean), fun _ _ => True) (xQz x Q) 0 [(0, .ref (x.2.2.1 + 0))] [] μ
  refine x_ran (fun n0 => ?_)
  have h := h n0 
  refine x_aload_n 0 rfl dX10_stand_0 ?_
  refine x_getR (j := 2) (r := 39) ly0 (by decide) rfl rfl (by decide) inT10 fl_X10_25 dX10_stand_1 ?_
  refine x_callVz (As := []) (rest := []) cal_X2_isOpen ins_X2_isOpen sel_X2_isOpen ly39 (by decide) rfl (xX2_isOpen x 39 _ _ isHouse_39 h) rfl ml_X10_186 (xRoom (Nat.le_of_ble_eq_true rfl)) (Nat.le_of_ble_eq_true rfl) dX10_stand_4 (fun r3 μ1 i4 n2 h => ?_)
  have h := h i4 n2
  refine x_ifne (tgt := 16) (xIz i4)  dX10_stand_7 (by decide) (fun k5 => ?_) (fun k5 => ?_)
  · have h := h.1 (xz1 i4 k5)
    refine x_aload_n 0 rfl dX10_stand_16 ?_
    refine x_getR (j := 14) (r := 249) ly0 (by decide) rfl rfl (by decide) inT10 fl_X10_97 dX10_stand_17 ?_
    refine x_getI (j := 1) ly249 (by decide) rfl rfl (by decide) inT4 fl_X10_243 dX10_stand_20 (fun r6 => ?_)
    refine x_aload_n 0 rfl dX10_stand_23 ?_
    refine x_getR (j := 2) (r := 39) ly0 (by decide) rfl rfl (by decide) inT10 fl_X10_25 dX10_stand_24 ?_
    refine x_getI (j := 4) ly39 (by decide) rfl rfl (by decide) inT2 fl_X10_137 dX10_stand_27 (fun r7 => ?_)
    refine x_icmplt (tgt := 40) r6 r7 dX10_stand_30 (by decide) (fun k8 => ?_) (fun k8 => ?_)
    · have h := h.1 k8
      refine x_aload_n 0 rfl dX10_stand_40 ?_
      refine x_getR (j := 14) (r := 249) ly0 (by decide) rfl rfl (by decide) inT10 fl_X10_97 dX10_stand_41 ?_
      refine x_callVv (As := []) (rest := []) cal_X4_leaveStanding ins_X4_leaveStanding sel_X4_leaveStanding ly249 (by decide) rfl (xX4_leaveStanding x 249 _ _ isNight_249 h) rfl ml_X10_260 (xRoom (Nat.le_of_ble_eq_true rfl)) (Nat.le_of_ble_eq_true rfl) dX10_stand_44 (fun μ9 n10 h => ?_)
      have h := h n10
      refine x_aload_n 0 rfl dX10_stand_47 ?_
      refine x_callVz (As := []) (rest := []) cal_X10_allowed ins_X10_allowed sel_X10_allowed ly0 (by decide) rfl (xX10_allowed x  _ _  h) rfl ml_X10_240 (xRoom (Nat.le_of_ble_eq_true rfl)) (Nat.le_of_ble_eq_true rfl) dX10_stand_48 (fun r13 μ11 i14 n12 h => ?_)
      have h := h i14 n12
      exact x_zret h i14 rfl dX10_stand_51
    · have h := h.2 k8
      refine x_aload_n 0 rfl dX10_stand_33 ?_
      refine x_bipush dX10_stand_34 (by decide) ?_
      refine x_callVz (As := [iV 6]) (rest := []) cal_X10_denied ins_X10_denied sel_X10_denied ly0 (by decide) rfl (xX10_denied x 6 _ _ ⟨by decide, by decide⟩ h) rfl ml_X10_237 (xRoom (Nat.le_of_ble_eq_true rfl)) (Nat.le_of_ble_eq_true rfl) dX10_stand_36 (fun r17 μ15 i18 n16 h => ?_)
      have h := h i18 n16
      exact x_zret h i18 rfl dX10_stand_39
  · have h := h.2 k5
    refine x_aload_n 0 rfl dX10_stand_10 ?_
    refine x_iconst dX10_stand_11 ?_
    refine x_callVz (As := [iV 1]) (rest := []) cal_X10_denied ins_X10_denied sel_X10_denied ly0 (by decide) rfl (xX10_denied x 1 _ _ ⟨by decide, by decide⟩ h) rfl ml_X10_237 (xRoom (Nat.le_of_ble_eq_true rfl)) (Nat.le_of_ble_eq_true rfl) dX10_stand_12 (fun r21 μ19 i22 n20 h => ?_)
    have h := h i22 n20
    exact x_zret h i22 rfl dX10_stand_15
set_option maxRecDepth 100000 in
set_option maxHeartbeats 4000000 in
theorem xX10_can (x : xX)  (μ : xM) (Q : Int → xM → Prop)  (h : tX10_can  μ Q) : xMet x 4 yX10_can cX10_can 4 (some .int) [.ref (x.2.2.1 + 0)] μ (xQi x Q) := by
  refine xMet_of (by decide +kernel) (Nat.le_of_ble_eq_true rfl) ?_
  show xW x (xRm 4, RX10, cX10_can, 4, (some .int), fun _ _ => True) (xQi x Q) 0 [(0, .ref (x.2.2.1 + 0))] [] μ
  refine x_ran (fun n0 => ?_)
  have h := h n0 
  refine x_aload_n 0 rfl dX10_can_0 ?_
  refine x_getR (j := 2) (r := 39) ly0 (by decide) rfl rfl (by decide) inT10 fl_X10_25 dX10_can_1 ?_
  refine x_callVz (As := []) (rest := []) cal_X2_isOpen ins_X2_isOpen sel_X2_isOpen ly39 (by decide) rfl (xX2_isOpen x 39 _ _ isHouse_39 h) rfl ml_X10_186 (xRoom (Nat.le_of_ble_eq_true rfl)) (Nat.le_of_ble_eq_true rfl) dX10_can_4 (fun r3 μ1 i4 n2 h => ?_)
  have h := h i4 n2
  refine x_ifne (tgt := 16) (xIz i4)  dX10_can_7 (by decide) (fun k5 => ?_) (fun k5 => ?_)
  · have h := h.1 (xz1 i4 k5)
    refine x_aload_n 0 rfl dX10_can_16 ?_
    refine x_getR (j := 14) (r := 249) ly0 (by decide) rfl rfl (by decide) inT10 fl_X10_97 dX10_can_17 ?_
    refine x_getI (j := 1) ly249 (by decide) rfl rfl (by decide) inT4 fl_X10_243 dX10_can_20 (fun r6 => ?_)
    refine x_aload_n 0 rfl dX10_can_23 ?_
    refine x_getR (j := 2) (r := 39) ly0 (by decide) rfl rfl (by decide) inT10 fl_X10_25 dX10_can_24 ?_
    refine x_getI (j := 4) ly39 (by decide) rfl rfl (by decide) inT2 fl_X10_137 dX10_can_27 (fun r7 => ?_)
    refine x_icmplt (tgt := 40) r6 r7 dX10_can_30 (by decide) (fun k8 => ?_) (fun k8 => ?_)
    · have h := h.1 k8
      refine x_aload_n 0 rfl dX10_can_40 ?_
      refine x_getR (j := 2) (r := 39) ly0 (by decide) rfl rfl (by decide) inT10 fl_X10_25 dX10_can_41 ?_
      refine x_aload_n 0 rfl dX10_can_44 ?_
      refine x_getR (j := 14) (r := 249) ly0 (by decide) rfl rfl (by decide) inT10 fl_X10_97 dX10_can_45 ?_
      refine x_getI (j := 1) ly249 (by decide) rfl rfl (by decide) inT4 fl_X10_243 dX10_can_48 (fun r9 => ?_)
      refine x_callVi (As := [iV (μ1 249 1)]) (rest := []) cal_X2_firstOf ins_X2_firstOf sel_X2_firstOf ly39 (by decide) rfl (xX2_firstOf x 39 (μ1 249 1) _ _ isHouse_39 r9 h) rfl ml_X10_253 (xRoom (Nat.le_of_ble_eq_true rfl)) (Nat.le_of_ble_eq_true rfl) dX10_can_51 (fun r12 μ10 i13 n11 h => ?_)
      have h := h i13 n11
      refine x_istore_n [(1, iV r12), (0, .ref (x.2.2.1 + 0))] dX10_can_54 (show 1 < 4 by decide) rfl ?_
      refine x_iconst dX10_can_55 ?_
      refine x_istore_n [(2, iV 0), (1, iV r12), (0, .ref (x.2.2.1 + 0))] dX10_can_56 (show 2 < 4 by decide) rfl ?_
      refine x_iconst dX10_can_57 ?_
      refine x_istore_n [(3, iV 0), (2, iV 0), (1, iV r12), (0, .ref (x.2.2.1 + 0))] dX10_can_58 (show 3 < 4 by decide) rfl ?_
      refine x_sub [3, 2, 1, 0] rfl ?_
      refine x_loop2 (fun l2_14 l3_15 => [(0, .ref (x.2.2.1 + 0)), (1, iV r12), (2, iV l2_14), (3, iV l3_15)]) h (fun J59 l2_14 l3_15 μ16 hJ59 h n17 => ?_)
      refine x_iload_n 3 rfl dX10_can_59 ?_
      refine x_aload_n 0 rfl dX10_can_60 ?_
      refine x_getR (j := 2) (r := 39) ly0 (by decide) rfl rfl (by decide) inT10 fl_X10_25 dX10_can_61 ?_
      refine x_getI (j := 0) ly39 (by decide) rfl rfl (by decide) inT2 fl_X10_203 dX10_can_64 (fun r18 => ?_)
      obtain ⟨c19, h⟩ := h
      refine x_icmpge (tgt := 95) c19 r18 dX10_can_67 (by decide) (fun k20 => ?_) (fun k20 => ?_)
      · have h := h.1 k20
        refine x_aload_n 0 rfl dX10_can_95 ?_
        refine x_iload_n 2 rfl dX10_can_96 ?_
        obtain ⟨c21, h⟩ := h
        refine x_callVi (As := [iV l2_14]) (rest := []) cal_X10_granted ins_X10_granted sel_X10_granted ly0 (by decide) rfl (xX10_granted x l2_14 _ _ c21 h) rfl ml_X10_140 (xRoom (Nat.le_of_ble_eq_true rfl)) (Nat.le_of_ble_eq_true rfl) dX10_can_97 (fun r24 μ22 i25 n23 h => ?_)
        have h := h i25 n23
        exact x_iret h i25 rfl dX10_can_100
      · have h := h.2 k20
        refine x_iload_n 2 rfl dX10_can_70 ?_
        refine x_aload_n 0 rfl dX10_can_71 ?_
        refine x_getR (j := 3) (r := 73) ly0 (by decide) rfl rfl (by decide) inT10 fl_X10_31 dX10_can_72 ?_
        refine x_aload_n 0 rfl dX10_can_75 ?_
        refine x_getR (j := 14) (r := 249) ly0 (by decide) rfl rfl (by decide) inT10 fl_X10_97 dX10_can_76 ?_
        refine x_iload_n 3 rfl dX10_can_79 ?_
        refine x_callVi (As := [iV l3_15]) (rest := [.ref (x.2.2.1 + 73), iV l2_14]) cal_X4_at ins_X4_at sel_X4_at ly249 (by decide) rfl (xX4_at x 249 l3_15 _ _ isNight_249 c19 h) rfl ml_X10_250 (xRoom (Nat.le_of_ble_eq_true rfl)) (Nat.le_of_ble_eq_true rfl) dX10_can_80 (fun r28 μ26 i29 n27 h => ?_)
        have h := h i29 n27
        refine x_iload_n 1 rfl dX10_can_83 ?_
        refine x_callVi (As := [iV r28, iV r12]) (rest := [iV l2_14]) cal_X1_waysBy ins_X1_waysBy sel_X1_waysBy ly73 (by decide) rfl (xX1_waysBy x r28 r12 _ _ i29 i13 h) rfl ml_X10_263 (xRoom (Nat.le_of_ble_eq_true rfl)) (Nat.le_of_ble_eq_true rfl) dX10_can_84 (fun r32 μ30 i33 n31 h => ?_)
        have h := h i33 n31
        refine x_iadd dX10_can_87 ?_
        refine x_istore_n [(2, iV (l2_14 + r32)), (0, .ref (x.2.2.1 + 0)), (1, iV r12), (3, iV l3_15)] dX10_can_88 (show 2 < 4 by decide) rfl ?_
        refine x_iinc 3 rfl [(3, iV (l3_15 + 1)), (2, iV (l2_14 + r32)), (0, .ref (x.2.2.1 + 0)), (1, iV r12)] dX10_can_89 (show 3 < 4 by decide) rfl ?_
        refine x_goto (tgt := 59) dX10_can_92 (by decide) ?_
        exact x_sub [2, 3, 1, 0] rfl (hJ59 _ _ _ h)
    · have h := h.2 k8
      refine x_aload_n 0 rfl dX10_can_33 ?_
      refine x_bipush dX10_can_34 (by decide) ?_
      refine x_callVi (As := [iV 6]) (rest := []) cal_X10_refused ins_X10_refused sel_X10_refused ly0 (by decide) rfl (xX10_refused x 6 _ _ ⟨by decide, by decide⟩ h) rfl ml_X10_116 (xRoom (Nat.le_of_ble_eq_true rfl)) (Nat.le_of_ble_eq_true rfl) dX10_can_36 (fun r36 μ34 i37 n35 h => ?_)
      have h := h i37 n35
      exact x_iret h i37 rfl dX10_can_39
  · have h := h.2 k5
    refine x_aload_n 0 rfl dX10_can_10 ?_
    refine x_iconst dX10_can_11 ?_
    refine x_callVi (As := [iV 1]) (rest := []) cal_X10_refused ins_X10_refused sel_X10_refused ly0 (by decide) rfl (xX10_refused x 1 _ _ ⟨by decide, by decide⟩ h) rfl ml_X10_116 (xRoom (Nat.le_of_ble_eq_true rfl)) (Nat.le_of_ble_eq_true rfl) dX10_can_12 (fun r40 μ38 i41 n39 h => ?_)
    have h := h i41 n39
    exact x_iret h i41 rfl dX10_can_15
set_option maxRecDepth 100000 in
set_option maxHeartbeats 4000000 in
theorem xX10_table (x : xX) (p1 : Int) (μ : xM) (Q : Int → xM → Prop) (hp1 : xIn p1) (h : tX10_table p1 μ Q) : xMet x 2 yX10_table cX10_table 3 (some .int) [.ref (x.2.2.1 + 0), iV p1] μ (xQi x Q) := by
  refine xMet_of (by decide +kernel) (Nat.le_of_ble_eq_true rfl) ?_
  show xW x (xRm 2, RX10, cX10_table, 3, (some .int), fun _ _ => True) (xQi x Q) 0 [(0, .ref (x.2.2.1 + 0)), (1, iV p1)] [] μ
  refine x_ran (fun n0 => ?_)
  have h := h n0 hp1
  refine x_iload_n 1 rfl dX10_table_0 ?_
  refine x_iflt (tgt := 15) hp1  dX10_table_1 (by decide) (fun k1 => ?_) (fun k1 => ?_)
  · have h := h.1 k1
    refine x_aload_n 0 rfl dX10_table_15 ?_
    refine x_iconst dX10_table_16 ?_
    refine x_callVi (As := [iV 1]) (rest := []) cal_X10_refused ins_X10_refused sel_X10_refused ly0 (by decide) rfl (xX10_refused x 1 _ _ ⟨by decide, by decide⟩ h) rfl ml_X10_116 (xRoom (Nat.le_of_ble_eq_true rfl)) (Nat.le_of_ble_eq_true rfl) dX10_table_17 (fun r4 μ2 i5 n3 h => ?_)
    have h := h i5 n3
    exact x_iret h i5 rfl dX10_table_20
  · have h := h.2 k1
    refine x_iload_n 1 rfl dX10_table_4 ?_
    refine x_aload_n 0 rfl dX10_table_5 ?_
    refine x_getR (j := 2) (r := 39) ly0 (by decide) rfl rfl (by decide) inT10 fl_X10_25 dX10_table_6 ?_
    refine x_getI (j := 0) ly39 (by decide) rfl rfl (by decide) inT2 fl_X10_203 dX10_table_9 (fun r6 => ?_)
    refine x_icmplt (tgt := 21) hp1 r6 dX10_table_12 (by decide) (fun k7 => ?_) (fun k7 => ?_)
    · have h := h.1 k7
      refine x_aload_n 0 rfl dX10_table_21 ?_
      refine x_getR (j := 14) (r := 249) ly0 (by decide) rfl rfl (by decide) inT10 fl_X10_97 dX10_table_22 ?_
      refine x_iload_n 1 rfl dX10_table_25 ?_
      refine x_callVi (As := [iV p1]) (rest := []) cal_X4_at ins_X4_at sel_X4_at ly249 (by decide) rfl (xX4_at x 249 p1 _ _ isNight_249 hp1 h) rfl ml_X10_250 (xRoom (Nat.le_of_ble_eq_true rfl)) (Nat.le_of_ble_eq_true rfl) dX10_table_26 (fun r10 μ8 i11 n9 h => ?_)
      have h := h i11 n9
      refine x_istore_n [(2, iV r10), (0, .ref (x.2.2.1 + 0)), (1, iV p1)] dX10_table_29 (show 2 < 3 by decide) rfl ?_
      refine x_aload_n 1 rfl dX10_table_30 ?_
      refine x_iload_n 0 rfl dX10_table_31 ?_
      refine x_bipush dX10_table_32 (by decide) ?_
      refine x_icmpne (tgt := 42) i11 ⟨by decide, by decide⟩ dX10_table_34 (by decide) (fun k12 => ?_) (fun k12 => ?_)
      · have h := h.1 k12
        refine x_iload_n 0 rfl dX10_table_42 ?_
        refine x_callVi (As := [iV r10]) (rest := []) cal_X10_granted ins_X10_granted sel_X10_granted ly0 (by decide) rfl (xX10_granted x r10 _ _ i11 h) rfl ml_X10_140 (xRoom (Nat.le_of_ble_eq_true rfl)) (Nat.le_of_ble_eq_true rfl) dX10_table_43 (fun r15 μ13 i16 n14 h => ?_)
        have h := h i16 n14
        exact x_iret h i16 rfl dX10_table_46
      · have h := h.2 k12
        refine x_bipush dX10_table_37 (by decide) ?_
        refine x_goto (tgt := 43) dX10_table_39 (by decide) ?_
        refine x_callVi (As := [iV (-2)]) (rest := []) cal_X10_granted ins_X10_granted sel_X10_granted ly0 (by decide) rfl (xX10_granted x (-2) _ _ ⟨by decide, by decide⟩ h) rfl ml_X10_140 (xRoom (Nat.le_of_ble_eq_true rfl)) (Nat.le_of_ble_eq_true rfl) dX10_table_43 (fun r19 μ17 i20 n18 h => ?_)
        have h := h i20 n18
        exact x_iret h i20 rfl dX10_table_46
    · have h := h.2 k7
      refine x_aload_n 0 rfl dX10_table_15 ?_
      refine x_iconst dX10_table_16 ?_
      refine x_callVi (As := [iV 1]) (rest := []) cal_X10_refused ins_X10_refused sel_X10_refused ly0 (by decide) rfl (xX10_refused x 1 _ _ ⟨by decide, by decide⟩ h) rfl ml_X10_116 (xRoom (Nat.le_of_ble_eq_true rfl)) (Nat.le_of_ble_eq_true rfl) dX10_table_17 (fun r23 μ21 i24 n22 h => ?_)
      have h := h i24 n22
      exact x_iret h i24 rfl dX10_table_20
set_option maxRecDepth 100000 in
set_option maxHeartbeats 4000000 in
theorem xX10_standing (x : xX)  (μ : xM) (Q : Int → xM → Prop)  (h : tX10_standing  μ Q) : xMet x 2 yX10_standing cX10_standing 1 (some .int) [.ref (x.2.2.1 + 0)] μ (xQi x Q) := by
  refine xMet_of (by decide +kernel) (Nat.le_of_ble_eq_true rfl) ?_
  show xW x (xRm 2, RX10, cX10_standing, 1, (some .int), fun _ _ => True) (xQi x Q) 0 [(0, .ref (x.2.2.1 + 0))] [] μ
  refine x_ran (fun n0 => ?_)
  have h := h n0 
  refine x_aload_n 0 rfl dX10_standing_0 ?_
  refine x_getR (j := 2) (r := 39) ly0 (by decide) rfl rfl (by decide) inT10 fl_X10_25 dX10_standing_1 ?_
  refine x_callVz (As := []) (rest := []) cal_X2_isOpen ins_X2_isOpen sel_X2_isOpen ly39 (by decide) rfl (xX2_isOpen x 39 _ _ isHouse_39 h) rfl ml_X10_186 (xRoom (Nat.le_of_ble_eq_true rfl)) (Nat.le_of_ble_eq_true rfl) dX10_standing_4 (fun r3 μ1 i4 n2 h => ?_)
  have h := h i4 n2
  refine x_ifeq (tgt := 24) (xIz i4)  dX10_standing_7 (by decide) (fun k5 => ?_) (fun k5 => ?_)
  · have h := h.1 k5
    refine x_aload_n 0 rfl dX10_standing_24 ?_
    refine x_iconst dX10_standing_25 ?_
    refine x_callVi (As := [iV 1]) (rest := []) cal_X10_refused ins_X10_refused sel_X10_refused ly0 (by decide) rfl (xX10_refused x 1 _ _ ⟨by decide, by decide⟩ h) rfl ml_X10_116 (xRoom (Nat.le_of_ble_eq_true rfl)) (Nat.le_of_ble_eq_true rfl) dX10_standing_26 (fun r8 μ6 i9 n7 h => ?_)
    have h := h i9 n7
    exact x_iret h i9 rfl dX10_standing_29
  · have h := h.2 (xz1 i4 k5)
    refine x_aload_n 0 rfl dX10_standing_10 ?_
    refine x_aload_n 0 rfl dX10_standing_11 ?_
    refine x_getR (j := 14) (r := 249) ly0 (by decide) rfl rfl (by decide) inT10 fl_X10_97 dX10_standing_12 ?_
    refine x_callVi (As := []) (rest := [.ref (x.2.2.1 + 0)]) cal_X4_standingBits ins_X4_standingBits sel_X4_standingBits ly249 (by decide) rfl (xX4_standingBits x 249 _ _ isNight_249 h) rfl ml_X10_266 (xRoom (Nat.le_of_ble_eq_true rfl)) (Nat.le_of_ble_eq_true rfl) dX10_standing_15 (fun r12 μ10 i13 n11 h => ?_)
    have h := h i13 n11
    refine x_callVi (As := [iV r12]) (rest := []) cal_X10_granted ins_X10_granted sel_X10_granted ly0 (by decide) rfl (xX10_granted x r12 _ _ i13 h) rfl ml_X10_140 (xRoom (Nat.le_of_ble_eq_true rfl)) (Nat.le_of_ble_eq_true rfl) dX10_standing_18 (fun r16 μ14 i17 n15 h => ?_)
    have h := h i17 n15
    refine x_goto (tgt := 29) dX10_standing_21 (by decide) ?_
    exact x_iret h i17 rfl dX10_standing_29
set_option maxRecDepth 100000 in
set_option maxHeartbeats 4000000 in
theorem xX10_ever (x : xX)  (μ : xM) (Q : Int → xM → Prop)  (h : tX10_ever  μ Q) : xMet x 20 yX10_ever cX10_ever 1 (some .int) [.ref (x.2.2.1 + 0)] μ (xQi x Q) := by
  refine xMet_of (by decide +kernel) (Nat.le_of_ble_eq_true rfl) ?_
  show xW x (xRm 20, RX10, cX10_ever, 1, (some .int), fun _ _ => True) (xQi x Q) 0 [(0, .ref (x.2.2.1 + 0))] [] μ
  refine x_ran (fun n0 => ?_)
  have h := h n0 
  refine x_aload_n 0 rfl dX10_ever_0 ?_
  refine x_getR (j := 2) (r := 39) ly0 (by decide) rfl rfl (by decide) inT10 fl_X10_25 dX10_ever_1 ?_
  refine x_callVz (As := []) (rest := []) cal_X2_isOpen ins_X2_isOpen sel_X2_isOpen ly39 (by decide) rfl (xX2_isOpen x 39 _ _ isHouse_39 h) rfl ml_X10_186 (xRoom (Nat.le_of_ble_eq_true rfl)) (Nat.le_of_ble_eq_true rfl) dX10_ever_4 (fun r3 μ1 i4 n2 h => ?_)
  have h := h i4 n2
  refine x_ifne (tgt := 16) (xIz i4)  dX10_ever_7 (by decide) (fun k5 => ?_) (fun k5 => ?_)
  · have h := h.1 (xz1 i4 k5)
    refine x_aload_n 0 rfl dX10_ever_16 ?_
    refine x_getR (j := 6) (r := 216) ly0 (by decide) rfl rfl (by decide) inT10 fl_X10_51 dX10_ever_17 ?_
    refine x_getI (j := 0) ly216 (by decide) rfl rfl (by decide) inT9 fl_X10_270 dX10_ever_20 (fun r6 => ?_)
    refine x_ifne (tgt := 50) r6  dX10_ever_23 (by decide) (fun k7 => ?_) (fun k7 => ?_)
    · have h := h.1 k7
      refine x_aload_n 0 rfl dX10_ever_50 ?_
      refine x_aload_n 0 rfl dX10_ever_51 ?_
      refine x_getR (j := 6) (r := 216) ly0 (by decide) rfl rfl (by decide) inT10 fl_X10_51 dX10_ever_52 ?_
      refine x_getI (j := 1) ly216 (by decide) rfl rfl (by decide) inT9 fl_X10_197 dX10_ever_55 (fun r8 => ?_)
      refine x_callVi (As := [iV (μ1 216 1)]) (rest := []) cal_X10_granted ins_X10_granted sel_X10_granted ly0 (by decide) rfl (xX10_granted x (μ1 216 1) _ _ r8 h) rfl ml_X10_140 (xRoom (Nat.le_of_ble_eq_true rfl)) (Nat.le_of_ble_eq_true rfl) dX10_ever_58 (fun r11 μ9 i12 n10 h => ?_)
      have h := h i12 n10
      exact x_iret h i12 rfl dX10_ever_61
    · have h := h.2 k7
      refine x_aload_n 0 rfl dX10_ever_26 ?_
      refine x_getR (j := 6) (r := 216) ly0 (by decide) rfl rfl (by decide) inT10 fl_X10_51 dX10_ever_27 ?_
      refine x_iconst dX10_ever_30 ?_
      refine x_callVv (As := [iV (-1)]) (rest := []) cal_X9_gather ins_X9_gather sel_X9_gather ly216 (by decide) rfl (xX9_gather x 216 (-1) _ _ isSurvey_216 ⟨by decide, by decide⟩ h) rfl ml_X10_224 (xRoom (Nat.le_of_ble_eq_true rfl)) (Nat.le_of_ble_eq_true rfl) dX10_ever_31 (fun μ13 n14 h => ?_)
      have h := h n14
      refine x_aload_n 0 rfl dX10_ever_34 ?_
      refine x_aload_n 0 rfl dX10_ever_35 ?_
      refine x_getR (j := 6) (r := 216) ly0 (by decide) rfl rfl (by decide) inT10 fl_X10_51 dX10_ever_36 ?_
      refine x_iconst dX10_ever_39 ?_
      refine x_callVv (As := [.ref (x.2.2.1 + 216), iV 1]) (rest := []) cal_X10_offerGood ins_X10_offerGood sel_X10_offerGood ly0 (by decide) rfl (xX10_offerGood x 216 1 _ _ isSurvey_216 ⟨by decide, by decide⟩ h) rfl ml_X10_227 (xRoom (Nat.le_of_ble_eq_true rfl)) (Nat.le_of_ble_eq_true rfl) dX10_ever_40 (fun μ15 n16 h => ?_)
      have h := h n16
      refine x_aload_n 0 rfl dX10_ever_43 ?_
      refine x_getR (j := 6) (r := 216) ly0 (by decide) rfl rfl (by decide) inT10 fl_X10_51 dX10_ever_44 ?_
      refine x_callVv (As := []) (rest := []) cal_X9_findPlans ins_X9_findPlans sel_X9_findPlans ly216 (by decide) rfl (xX9_findPlans x 216 _ _ isSurvey_216 h) rfl ml_X10_231 (xRoom (Nat.le_of_ble_eq_true rfl)) (Nat.le_of_ble_eq_true rfl) dX10_ever_47 (fun μ17 n18 h => ?_)
      have h := h n18
      refine x_aload_n 0 rfl dX10_ever_50 ?_
      refine x_aload_n 0 rfl dX10_ever_51 ?_
      refine x_getR (j := 6) (r := 216) ly0 (by decide) rfl rfl (by decide) inT10 fl_X10_51 dX10_ever_52 ?_
      refine x_getI (j := 1) ly216 (by decide) rfl rfl (by decide) inT9 fl_X10_197 dX10_ever_55 (fun r19 => ?_)
      refine x_callVi (As := [iV (μ17 216 1)]) (rest := []) cal_X10_granted ins_X10_granted sel_X10_granted ly0 (by decide) rfl (xX10_granted x (μ17 216 1) _ _ r19 h) rfl ml_X10_140 (xRoom (Nat.le_of_ble_eq_true rfl)) (Nat.le_of_ble_eq_true rfl) dX10_ever_58 (fun r22 μ20 i23 n21 h => ?_)
      have h := h i23 n21
      exact x_iret h i23 rfl dX10_ever_61
  · have h := h.2 k5
    refine x_aload_n 0 rfl dX10_ever_10 ?_
    refine x_iconst dX10_ever_11 ?_
    refine x_callVi (As := [iV 1]) (rest := []) cal_X10_refused ins_X10_refused sel_X10_refused ly0 (by decide) rfl (xX10_refused x 1 _ _ ⟨by decide, by decide⟩ h) rfl ml_X10_116 (xRoom (Nat.le_of_ble_eq_true rfl)) (Nat.le_of_ble_eq_true rfl) dX10_ever_12 (fun r26 μ24 i27 n25 h => ?_)
    have h := h i27 n25
    exact x_iret h i27 rfl dX10_ever_15
set_option maxRecDepth 100000 in
set_option maxHeartbeats 4000000 in
theorem xX10_rises (x : xX) (p1 : Int) (μ : xM) (Q : Int → xM → Prop) (hp1 : xIn p1) (h : tX10_rises p1 μ Q) : xMet x 3 yX10_rises cX10_rises 2 (some .int) [.ref (x.2.2.1 + 0), iV p1] μ (xQi x Q) := by
  refine xMet_of (by decide +kernel) (Nat.le_of_ble_eq_true rfl) ?_
  show xW x (xRm 3, RX10, cX10_rises, 2, (some .int), fun _ _ => True) (xQi x Q) 0 [(0, .ref (x.2.2.1 + 0)), (1, iV p1)] [] μ
  refine x_ran (fun n0 => ?_)
  have h := h n0 hp1
  refine x_aload_n 0 rfl dX10_rises_0 ?_
  refine x_getR (j := 2) (r := 39) ly0 (by decide) rfl rfl (by decide) inT10 fl_X10_25 dX10_rises_1 ?_
  refine x_iload_n 1 rfl dX10_rises_4 ?_
  refine x_callVz (As := [iV p1]) (rest := []) cal_X2_isWord ins_X2_isWord sel_X2_isWord ly39 (by decide) rfl (xX2_isWord x 39 p1 _ _ isHouse_39 hp1 h) rfl ml_X10_152 (xRoom (Nat.le_of_ble_eq_true rfl)) (Nat.le_of_ble_eq_true rfl) dX10_rises_5 (fun r3 μ1 i4 n2 h => ?_)
  have h := h i4 n2
  refine x_ifne (tgt := 17) (xIz i4)  dX10_rises_8 (by decide) (fun k5 => ?_) (fun k5 => ?_)
  · have h := h.1 (xz1 i4 k5)
    refine x_aload_n 0 rfl dX10_rises_17 ?_
    refine x_getR (j := 2) (r := 39) ly0 (by decide) rfl rfl (by decide) inT10 fl_X10_25 dX10_rises_18 ?_
    refine x_iload_n 1 rfl dX10_rises_21 ?_
    refine x_callVz (As := [iV p1]) (rest := []) cal_X2_isGood ins_X2_isGood sel_X2_isGood ly39 (by decide) rfl (xX2_isGood x 39 p1 _ _ isHouse_39 hp1 h) rfl ml_X10_164 (xRoom (Nat.le_of_ble_eq_true rfl)) (Nat.le_of_ble_eq_true rfl) dX10_rises_22 (fun r8 μ6 i9 n7 h => ?_)
    have h := h i9 n7
    refine x_ifne (tgt := 34) (xIz i9)  dX10_rises_25 (by decide) (fun k10 => ?_) (fun k10 => ?_)
    · have h := h.1 (xz1 i9 k10)
      refine x_aload_n 0 rfl dX10_rises_34 ?_
      refine x_aload_n 0 rfl dX10_rises_35 ?_
      refine x_getR (j := 3) (r := 73) ly0 (by decide) rfl rfl (by decide) inT10 fl_X10_31 dX10_rises_36 ?_
      refine x_iload_n 1 rfl dX10_rises_39 ?_
      refine x_callVi (As := [iV p1]) (rest := [.ref (x.2.2.1 + 0)]) cal_X1_riseOf ins_X1_riseOf sel_X1_riseOf ly73 (by decide) rfl (xX1_riseOf x p1 _ _ hp1 h) rfl ml_X10_274 (xRoom (Nat.le_of_ble_eq_true rfl)) (Nat.le_of_ble_eq_true rfl) dX10_rises_40 (fun r13 μ11 i14 n12 h => ?_)
      have h := h i14 n12
      refine x_callVi (As := [iV r13]) (rest := []) cal_X10_granted ins_X10_granted sel_X10_granted ly0 (by decide) rfl (xX10_granted x r13 _ _ i14 h) rfl ml_X10_140 (xRoom (Nat.le_of_ble_eq_true rfl)) (Nat.le_of_ble_eq_true rfl) dX10_rises_43 (fun r17 μ15 i18 n16 h => ?_)
      have h := h i18 n16
      exact x_iret h i18 rfl dX10_rises_46
    · have h := h.2 k10
      refine x_aload_n 0 rfl dX10_rises_28 ?_
      refine x_iconst dX10_rises_29 ?_
      refine x_callVi (As := [iV 5]) (rest := []) cal_X10_refused ins_X10_refused sel_X10_refused ly0 (by decide) rfl (xX10_refused x 5 _ _ ⟨by decide, by decide⟩ h) rfl ml_X10_116 (xRoom (Nat.le_of_ble_eq_true rfl)) (Nat.le_of_ble_eq_true rfl) dX10_rises_30 (fun r21 μ19 i22 n20 h => ?_)
      have h := h i22 n20
      exact x_iret h i22 rfl dX10_rises_33
  · have h := h.2 k5
    refine x_aload_n 0 rfl dX10_rises_11 ?_
    refine x_iconst dX10_rises_12 ?_
    refine x_callVi (As := [iV 1]) (rest := []) cal_X10_refused ins_X10_refused sel_X10_refused ly0 (by decide) rfl (xX10_refused x 1 _ _ ⟨by decide, by decide⟩ h) rfl ml_X10_116 (xRoom (Nat.le_of_ble_eq_true rfl)) (Nat.le_of_ble_eq_true rfl) dX10_rises_13 (fun r25 μ23 i26 n24 h => ?_)
    have h := h i26 n24
    exact x_iret h i26 rfl dX10_rises_16
set_option maxRecDepth 100000 in
set_option maxHeartbeats 4000000 in
theorem xX10_isTold (x : xX) (p1 : Int) (p2 : Int) (μ : xM) (Q : Int → xM → Prop) (hp1 : xIn p1) (hp2 : xIn p2) (h : tX10_isTold p1 p2 μ Q) : xMet x 2 yX10_isTold cX10_isTold 3 (some .boolean) [.ref (x.2.2.1 + 0), iV p1, iV p2] μ (xQz x Q) := by
  refine xMet_of (by decide +kernel) (Nat.le_of_ble_eq_true rfl) ?_
  show xW x (xRm 2, RX10, cX10_isTold, 3, (some .boolean), fun _ _ => True) (xQz x Q) 0 [(0, .ref (x.2.2.1 + 0)), (1, iV p1), (2, iV p2)] [] μ
  refine x_ran (fun n0 => ?_)
  have h := h n0 hp1 hp2
  refine x_iload_n 2 rfl dX10_isTold_0 ?_
  refine x_iconst dX10_isTold_1 ?_
  refine x_icmpeq (tgt := 27) hp2 ⟨by decide, by decide⟩ dX10_isTold_2 (by decide) (fun k1 => ?_) (fun k1 => ?_)
  · have h := h.1 k1
    refine x_iconst dX10_isTold_27 ?_
    refine x_goto (tgt := 32) dX10_isTold_28 (by decide) ?_
    exact x_zret h (Or.inr rfl) rfl dX10_isTold_32
  · have h := h.2 k1
    refine x_iload_n 1 rfl dX10_isTold_5 ?_
    refine x_aload_n 0 rfl dX10_isTold_6 ?_
    refine x_getR (j := 2) (r := 39) ly0 (by decide) rfl rfl (by decide) inT10 fl_X10_25 dX10_isTold_7 ?_
    refine x_getI (j := 0) ly39 (by decide) rfl rfl (by decide) inT2 fl_X10_203 dX10_isTold_10 (fun r2 => ?_)
    refine x_icmpge (tgt := 31) hp1 r2 dX10_isTold_13 (by decide) (fun k3 => ?_) (fun k3 => ?_)
    · have h := h.1 k3
      refine x_iconst dX10_isTold_31 ?_
      exact x_zret h (Or.inl rfl) rfl dX10_isTold_32
    · have h := h.2 k3
      refine x_aload_n 0 rfl dX10_isTold_16 ?_
      refine x_getR (j := 2) (r := 39) ly0 (by decide) rfl rfl (by decide) inT10 fl_X10_25 dX10_isTold_17 ?_
      refine x_iload_n 2 rfl dX10_isTold_20 ?_
      refine x_callVz (As := [iV p2]) (rest := []) cal_X2_isWord ins_X2_isWord sel_X2_isWord ly39 (by decide) rfl (xX2_isWord x 39 p2 _ _ isHouse_39 hp2 h) rfl ml_X10_152 (xRoom (Nat.le_of_ble_eq_true rfl)) (Nat.le_of_ble_eq_true rfl) dX10_isTold_21 (fun r6 μ4 i7 n5 h => ?_)
      have h := h i7 n5
      refine x_ifeq (tgt := 31) (xIz i7)  dX10_isTold_24 (by decide) (fun k8 => ?_) (fun k8 => ?_)
      · have h := h.1 k8
        refine x_iconst dX10_isTold_31 ?_
        exact x_zret h (Or.inl rfl) rfl dX10_isTold_32
      · have h := h.2 (xz1 i7 k8)
        refine x_iconst dX10_isTold_27 ?_
        refine x_goto (tgt := 32) dX10_isTold_28 (by decide) ?_
        exact x_zret h (Or.inr rfl) rfl dX10_isTold_32
set_option maxRecDepth 100000 in
set_option maxHeartbeats 4000000 in
theorem xX10_isEmptyOrGood (x : xX) (p1 : Int) (μ : xM) (Q : Int → xM → Prop) (hp1 : xIn p1) (h : tX10_isEmptyOrGood p1 μ Q) : xMet x 3 yX10_isEmptyOrGood cX10_isEmptyOrGood 2 (some .boolean) [.ref (x.2.2.1 + 0), iV p1] μ (xQz x Q) := by
  refine xMet_of (by decide +kernel) (Nat.le_of_ble_eq_true rfl) ?_
  show xW x (xRm 3, RX10, cX10_isEmptyOrGood, 2, (some .boolean), fun _ _ => True) (xQz x Q) 0 [(0, .ref (x.2.2.1 + 0)), (1, iV p1)] [] μ
  refine x_ran (fun n0 => ?_)
  have h := h n0 hp1
  refine x_iload_n 1 rfl dX10_isEmptyOrGood_0 ?_
  refine x_iconst dX10_isEmptyOrGood_1 ?_
  refine x_icmpeq (tgt := 16) hp1 ⟨by decide, by decide⟩ dX10_isEmptyOrGood_2 (by decide) (fun k1 => ?_) (fun k1 => ?_)
  · have h := h.1 k1
    refine x_iconst dX10_isEmptyOrGood_16 ?_
    refine x_goto (tgt := 21) dX10_isEmptyOrGood_17 (by decide) ?_
    exact x_zret h (Or.inr rfl) rfl dX10_isEmptyOrGood_21
  · have h := h.2 k1
    refine x_aload_n 0 rfl dX10_isEmptyOrGood_5 ?_
    refine x_getR (j := 2) (r := 39) ly0 (by decide) rfl rfl (by decide) inT10 fl_X10_25 dX10_isEmptyOrGood_6 ?_
    refine x_iload_n 1 rfl dX10_isEmptyOrGood_9 ?_
    refine x_callVz (As := [iV p1]) (rest := []) cal_X2_isGood ins_X2_isGood sel_X2_isGood ly39 (by decide) rfl (xX2_isGood x 39 p1 _ _ isHouse_39 hp1 h) rfl ml_X10_164 (xRoom (Nat.le_of_ble_eq_true rfl)) (Nat.le_of_ble_eq_true rfl) dX10_isEmptyOrGood_10 (fun r4 μ2 i5 n3 h => ?_)
    have h := h i5 n3
    refine x_ifeq (tgt := 20) (xIz i5)  dX10_isEmptyOrGood_13 (by decide) (fun k6 => ?_) (fun k6 => ?_)
    · have h := h.1 k6
      refine x_iconst dX10_isEmptyOrGood_20 ?_
      exact x_zret h (Or.inl rfl) rfl dX10_isEmptyOrGood_21
    · have h := h.2 (xz1 i5 k6)
      refine x_iconst dX10_isEmptyOrGood_16 ?_
      refine x_goto (tgt := 21) dX10_isEmptyOrGood_17 (by decide) ?_
      exact x_zret h (Or.inr rfl) rfl dX10_isEmptyOrGood_21
set_option maxRecDepth 100000 in
set_option maxHeartbeats 4000000 in
theorem xX10_steps_b128 (x : xX) (p1 : Int) (p2 : Int) (p3 : Int) (p4 : Int) (s1 : Int) (s2 : Int) (s3 : Int) (μ : xM) (Q : Int → xM → Prop)  (hp1 : xIn p1) (hp2 : xIn p2) (hp3 : xIn p3) (hp4 : xIn p4)  (h : tX10_steps_b128 p1 p2 p3 p4 s1 s2 s3 μ Q ) : xW x (xRm 7, RX10, cX10_steps, 6, (some .int), fun _ _ => True) (xQi x Q) 128 [(0, .ref (x.2.2.1 + 0)), (4, iV p4)] [iV s3, iV s2, iV s1, .ref (x.2.2.1 + 236)] μ := by
  refine x_ran (fun n0 => ?_)
  have h := h n0
  obtain ⟨c65, h⟩ := h
  obtain ⟨c66, h⟩ := h
  obtain ⟨c67, h⟩ := h
  refine x_callVi (As := [iV s1, iV s2, iV s3]) (rest := []) cal_X7_codeOf ins_X7_codeOf sel_X7_codeOf ly236 (by decide) rfl (xX7_codeOf x s1 s2 s3 _ _ c65 c66 c67 h) rfl ml_X10_284 (xRoom (Nat.le_of_ble_eq_true rfl)) (Nat.le_of_ble_eq_true rfl) dX10_steps_128 (fun r70 μ68 i71 n69 h => ?_)
  have h := h i71 n69
  refine x_istore [(5, iV r70), (0, .ref (x.2.2.1 + 0)), (4, iV p4)] dX10_steps_131 (show 5 < 6 by decide) rfl ?_
  refine x_aload_n 1 rfl dX10_steps_133 ?_
  refine x_aload_n 1 rfl dX10_steps_134 ?_
  refine x_getR (j := 12) (r := 236) ly0 (by decide) rfl rfl (by decide) inT10 fl_X10_83 dX10_steps_135 ?_
  refine x_aload_n 1 rfl dX10_steps_138 ?_
  refine x_getR (j := 14) (r := 249) ly0 (by decide) rfl rfl (by decide) inT10 fl_X10_97 dX10_steps_139 ?_
  refine x_iload 0 rfl dX10_steps_142 ?_
  refine x_iload 2 rfl dX10_steps_144 ?_
  refine x_callVi (As := [.ref (x.2.2.1 + 249), iV r70, iV p4]) (rest := [.ref (x.2.2.1 + 0)]) cal_X7_climb ins_X7_climb sel_X7_climb ly236 (by decide) rfl (xX7_climb x 249 r70 p4 _ _ isNight_249 i71 hp4 h) rfl ml_X10_288 (xRoom (Nat.le_of_ble_eq_true rfl)) (Nat.le_of_ble_eq_true rfl) dX10_steps_146 (fun r74 μ72 i75 n73 h => ?_)
  have h := h i75 n73
  refine x_callVi (As := [iV r74]) (rest := []) cal_X10_granted ins_X10_granted sel_X10_granted ly0 (by decide) rfl (xX10_granted x r74 _ _ i75 h) rfl ml_X10_140 (xRoom (Nat.le_of_ble_eq_true rfl)) (Nat.le_of_ble_eq_true rfl) dX10_steps_149 (fun r78 μ76 i79 n77 h => ?_)
  have h := h i79 n77
  exact x_iret h i79 rfl dX10_steps_152
set_option maxRecDepth 100000 in
set_option maxHeartbeats 4000000 in
theorem xX10_steps_b117 (x : xX) (p1 : Int) (p2 : Int) (p3 : Int) (p4 : Int) (s1 : Int) (s2 : Int) (μ : xM) (Q : Int → xM → Prop)  (hp1 : xIn p1) (hp2 : xIn p2) (hp3 : xIn p3) (hp4 : xIn p4)  (h : tX10_steps_b117 p1 p2 p3 p4 s1 s2 μ Q ) : xW x (xRm 7, RX10, cX10_steps, 6, (some .int), fun _ _ => True) (xQi x Q) 117 [(0, .ref (x.2.2.1 + 0)), (3, iV p3), (4, iV p4)] [iV s2, iV s1, .ref (x.2.2.1 + 236)] μ := by
  refine x_ran (fun n0 => ?_)
  have h := h n0
  refine x_iload_n 1 rfl dX10_steps_117 ?_
  refine x_iconst dX10_steps_118 ?_
  refine x_icmpne (tgt := 127) hp3 ⟨by decide, by decide⟩ dX10_steps_119 (by decide) (fun k64 => ?_) (fun k64 => ?_)
  · have h := h.1 k64
    refine x_iload_n 1 rfl dX10_steps_127 ?_
    exact x_sub [0, 2] rfl (xX10_steps_b128 x p1 p2 p3 p4 s1 s2 p3 μ Q  hp1 hp2 hp3 hp4 h)
  · have h := h.2 k64
    refine x_bipush dX10_steps_122 (by decide) ?_
    refine x_goto (tgt := 128) dX10_steps_124 (by decide) ?_
    exact x_sub [0, 2] rfl (xX10_steps_b128 x p1 p2 p3 p4 s1 s2 24 μ Q  hp1 hp2 hp3 hp4 h)
set_option maxRecDepth 100000 in
set_option maxHeartbeats 4000000 in
theorem xX10_steps_b106 (x : xX) (p1 : Int) (p2 : Int) (p3 : Int) (p4 : Int) (s1 : Int) (μ : xM) (Q : Int → xM → Prop)  (hp1 : xIn p1) (hp2 : xIn p2) (hp3 : xIn p3) (hp4 : xIn p4)  (h : tX10_steps_b106 p1 p2 p3 p4 s1 μ Q ) : xW x (xRm 7, RX10, cX10_steps, 6, (some .int), fun _ _ => True) (xQi x Q) 106 [(0, .ref (x.2.2.1 + 0)), (2, iV p2), (3, iV p3), (4, iV p4)] [iV s1, .ref (x.2.2.1 + 236)] μ := by
  refine x_ran (fun n0 => ?_)
  have h := h n0
  refine x_iload_n 1 rfl dX10_steps_106 ?_
  refine x_iconst dX10_steps_107 ?_
  refine x_icmpne (tgt := 116) hp2 ⟨by decide, by decide⟩ dX10_steps_108 (by decide) (fun k63 => ?_) (fun k63 => ?_)
  · have h := h.1 k63
    refine x_iload_n 1 rfl dX10_steps_116 ?_
    exact x_sub [0, 2, 3] rfl (xX10_steps_b117 x p1 p2 p3 p4 s1 p2 μ Q  hp1 hp2 hp3 hp4 h)
  · have h := h.2 k63
    refine x_bipush dX10_steps_111 (by decide) ?_
    refine x_goto (tgt := 117) dX10_steps_113 (by decide) ?_
    exact x_sub [0, 2, 3] rfl (xX10_steps_b117 x p1 p2 p3 p4 s1 24 μ Q  hp1 hp2 hp3 hp4 h)
set_option maxRecDepth 100000 in
set_option maxHeartbeats 4000000 in
theorem xX10_steps (x : xX) (p1 : Int) (p2 : Int) (p3 : Int) (p4 : Int) (μ : xM) (Q : Int → xM → Prop) (hp1 : xIn p1) (hp2 : xIn p2) (hp3 : xIn p3) (hp4 : xIn p4) (h : tX10_steps p1 p2 p3 p4 μ Q) : xMet x 7 yX10_steps cX10_steps 6 (some .int) [.ref (x.2.2.1 + 0), iV p1, iV p2, iV p3, iV p4] μ (xQi x Q) := by
  refine xMet_of (by decide +kernel) (Nat.le_of_ble_eq_true rfl) ?_
  show xW x (xRm 7, RX10, cX10_steps, 6, (some .int), fun _ _ => True) (xQi x Q) 0 [(0, .ref (x.2.2.1 + 0)), (1, iV p1), (2, iV p2), (3, iV p3), (4, iV p4)] [] μ
  refine x_ran (fun n0 => ?_)
  have h := h n0 hp1 hp2 hp3 hp4
  refine x_aload_n 0 rfl dX10_steps_0 ?_
  refine x_getR (j := 2) (r := 39) ly0 (by decide) rfl rfl (by decide) inT10 fl_X10_25 dX10_steps_1 ?_
  refine x_callVz (As := []) (rest := []) cal_X2_isOpen ins_X2_isOpen sel_X2_isOpen ly39 (by decide) rfl (xX2_isOpen x 39 _ _ isHouse_39 h) rfl ml_X10_186 (xRoom (Nat.le_of_ble_eq_true rfl)) (Nat.le_of_ble_eq_true rfl) dX10_steps_4 (fun r3 μ1 i4 n2 h => ?_)
  have h := h i4 n2
  refine x_ifeq (tgt := 37) (xIz i4)  dX10_steps_7 (by decide) (fun k5 => ?_) (fun k5 => ?_)
  · have h := h.1 k5
    refine x_aload_n 0 rfl dX10_steps_37 ?_
    refine x_iconst dX10_steps_38 ?_
    refine x_callVi (As := [iV 1]) (rest := []) cal_X10_refused ins_X10_refused sel_X10_refused ly0 (by decide) rfl (xX10_refused x 1 _ _ ⟨by decide, by decide⟩ h) rfl ml_X10_116 (xRoom (Nat.le_of_ble_eq_true rfl)) (Nat.le_of_ble_eq_true rfl) dX10_steps_39 (fun r8 μ6 i9 n7 h => ?_)
    have h := h i9 n7
    exact x_iret h i9 rfl dX10_steps_42
  · have h := h.2 (xz1 i4 k5)
    refine x_aload_n 0 rfl dX10_steps_10 ?_
    refine x_iconst dX10_steps_11 ?_
    refine x_iload_n 1 rfl dX10_steps_12 ?_
    refine x_callVz (As := [iV 0, iV p1]) (rest := []) cal_X10_isTold ins_X10_isTold sel_X10_isTold ly0 (by decide) rfl (xX10_isTold x 0 p1 _ _ ⟨by decide, by decide⟩ hp1 h) rfl ml_X10_277 (xRoom (Nat.le_of_ble_eq_true rfl)) (Nat.le_of_ble_eq_true rfl) dX10_steps_13 (fun r12 μ10 i13 n11 h => ?_)
    have h := h i13 n11
    refine x_ifeq (tgt := 37) (xIz i13)  dX10_steps_16 (by decide) (fun k14 => ?_) (fun k14 => ?_)
    · have h := h.1 k14
      refine x_aload_n 0 rfl dX10_steps_37 ?_
      refine x_iconst dX10_steps_38 ?_
      refine x_callVi (As := [iV 1]) (rest := []) cal_X10_refused ins_X10_refused sel_X10_refused ly0 (by decide) rfl (xX10_refused x 1 _ _ ⟨by decide, by decide⟩ h) rfl ml_X10_116 (xRoom (Nat.le_of_ble_eq_true rfl)) (Nat.le_of_ble_eq_true rfl) dX10_steps_39 (fun r17 μ15 i18 n16 h => ?_)
      have h := h i18 n16
      exact x_iret h i18 rfl dX10_steps_42
    · have h := h.2 (xz1 i13 k14)
      refine x_aload_n 0 rfl dX10_steps_19 ?_
      refine x_iconst dX10_steps_20 ?_
      refine x_iload_n 2 rfl dX10_steps_21 ?_
      refine x_callVz (As := [iV 1, iV p2]) (rest := []) cal_X10_isTold ins_X10_isTold sel_X10_isTold ly0 (by decide) rfl (xX10_isTold x 1 p2 _ _ ⟨by decide, by decide⟩ hp2 h) rfl ml_X10_277 (xRoom (Nat.le_of_ble_eq_true rfl)) (Nat.le_of_ble_eq_true rfl) dX10_steps_22 (fun r21 μ19 i22 n20 h => ?_)
      have h := h i22 n20
      refine x_ifeq (tgt := 37) (xIz i22)  dX10_steps_25 (by decide) (fun k23 => ?_) (fun k23 => ?_)
      · have h := h.1 k23
        refine x_aload_n 0 rfl dX10_steps_37 ?_
        refine x_iconst dX10_steps_38 ?_
        refine x_callVi (As := [iV 1]) (rest := []) cal_X10_refused ins_X10_refused sel_X10_refused ly0 (by decide) rfl (xX10_refused x 1 _ _ ⟨by decide, by decide⟩ h) rfl ml_X10_116 (xRoom (Nat.le_of_ble_eq_true rfl)) (Nat.le_of_ble_eq_true rfl) dX10_steps_39 (fun r26 μ24 i27 n25 h => ?_)
        have h := h i27 n25
        exact x_iret h i27 rfl dX10_steps_42
      · have h := h.2 (xz1 i22 k23)
        refine x_aload_n 0 rfl dX10_steps_28 ?_
        refine x_iconst dX10_steps_29 ?_
        refine x_iload_n 3 rfl dX10_steps_30 ?_
        refine x_callVz (As := [iV 2, iV p3]) (rest := []) cal_X10_isTold ins_X10_isTold sel_X10_isTold ly0 (by decide) rfl (xX10_isTold x 2 p3 _ _ ⟨by decide, by decide⟩ hp3 h) rfl ml_X10_277 (xRoom (Nat.le_of_ble_eq_true rfl)) (Nat.le_of_ble_eq_true rfl) dX10_steps_31 (fun r30 μ28 i31 n29 h => ?_)
        have h := h i31 n29
        refine x_ifne (tgt := 43) (xIz i31)  dX10_steps_34 (by decide) (fun k32 => ?_) (fun k32 => ?_)
        · have h := h.1 (xz1 i31 k32)
          refine x_iload 4 rfl dX10_steps_43 ?_
          refine x_iflt (tgt := 55) hp4  dX10_steps_45 (by decide) (fun k33 => ?_) (fun k33 => ?_)
          · have h := h.1 k33
            refine x_aload_n 0 rfl dX10_steps_55 ?_
            refine x_iconst dX10_steps_56 ?_
            refine x_callVi (As := [iV 2]) (rest := []) cal_X10_refused ins_X10_refused sel_X10_refused ly0 (by decide) rfl (xX10_refused x 2 _ _ ⟨by decide, by decide⟩ h) rfl ml_X10_116 (xRoom (Nat.le_of_ble_eq_true rfl)) (Nat.le_of_ble_eq_true rfl) dX10_steps_57 (fun r36 μ34 i37 n35 h => ?_)
            have h := h i37 n35
            exact x_iret h i37 rfl dX10_steps_60
          · have h := h.2 k33
            refine x_iload 4 rfl dX10_steps_48 ?_
            refine x_bipush dX10_steps_50 (by decide) ?_
            refine x_icmple (tgt := 61) hp4 ⟨by decide, by decide⟩ dX10_steps_52 (by decide) (fun k38 => ?_) (fun k38 => ?_)
            · have h := h.1 k38
              refine x_aload_n 0 rfl dX10_steps_61 ?_
              refine x_iload_n 1 rfl dX10_steps_62 ?_
              refine x_callVz (As := [iV p1]) (rest := []) cal_X10_isEmptyOrGood ins_X10_isEmptyOrGood sel_X10_isEmptyOrGood ly0 (by decide) rfl (xX10_isEmptyOrGood x p1 _ _ hp1 h) rfl ml_X10_281 (xRoom (Nat.le_of_ble_eq_true rfl)) (Nat.le_of_ble_eq_true rfl) dX10_steps_63 (fun r41 μ39 i42 n40 h => ?_)
              have h := h i42 n40
              refine x_ifeq (tgt := 85) (xIz i42)  dX10_steps_66 (by decide) (fun k43 => ?_) (fun k43 => ?_)
              · have h := h.1 k43
                refine x_aload_n 0 rfl dX10_steps_85 ?_
                refine x_iconst dX10_steps_86 ?_
                refine x_callVi (As := [iV 5]) (rest := []) cal_X10_refused ins_X10_refused sel_X10_refused ly0 (by decide) rfl (xX10_refused x 5 _ _ ⟨by decide, by decide⟩ h) rfl ml_X10_116 (xRoom (Nat.le_of_ble_eq_true rfl)) (Nat.le_of_ble_eq_true rfl) dX10_steps_87 (fun r46 μ44 i47 n45 h => ?_)
                have h := h i47 n45
                exact x_iret h i47 rfl dX10_steps_90
              · have h := h.2 (xz1 i42 k43)
                refine x_aload_n 0 rfl dX10_steps_69 ?_
                refine x_iload_n 2 rfl dX10_steps_70 ?_
                refine x_callVz (As := [iV p2]) (rest := []) cal_X10_isEmptyOrGood ins_X10_isEmptyOrGood sel_X10_isEmptyOrGood ly0 (by decide) rfl (xX10_isEmptyOrGood x p2 _ _ hp2 h) rfl ml_X10_281 (xRoom (Nat.le_of_ble_eq_true rfl)) (Nat.le_of_ble_eq_true rfl) dX10_steps_71 (fun r50 μ48 i51 n49 h => ?_)
                have h := h i51 n49
                refine x_ifeq (tgt := 85) (xIz i51)  dX10_steps_74 (by decide) (fun k52 => ?_) (fun k52 => ?_)
                · have h := h.1 k52
                  refine x_aload_n 0 rfl dX10_steps_85 ?_
                  refine x_iconst dX10_steps_86 ?_
                  refine x_callVi (As := [iV 5]) (rest := []) cal_X10_refused ins_X10_refused sel_X10_refused ly0 (by decide) rfl (xX10_refused x 5 _ _ ⟨by decide, by decide⟩ h) rfl ml_X10_116 (xRoom (Nat.le_of_ble_eq_true rfl)) (Nat.le_of_ble_eq_true rfl) dX10_steps_87 (fun r55 μ53 i56 n54 h => ?_)
                  have h := h i56 n54
                  exact x_iret h i56 rfl dX10_steps_90
                · have h := h.2 (xz1 i51 k52)
                  refine x_aload_n 0 rfl dX10_steps_77 ?_
                  refine x_iload_n 3 rfl dX10_steps_78 ?_
                  refine x_callVz (As := [iV p3]) (rest := []) cal_X10_isEmptyOrGood ins_X10_isEmptyOrGood sel_X10_isEmptyOrGood ly0 (by decide) rfl (xX10_isEmptyOrGood x p3 _ _ hp3 h) rfl ml_X10_281 (xRoom (Nat.le_of_ble_eq_true rfl)) (Nat.le_of_ble_eq_true rfl) dX10_steps_79 (fun r59 μ57 i60 n58 h => ?_)
                  have h := h i60 n58
                  refine x_ifne (tgt := 91) (xIz i60)  dX10_steps_82 (by decide) (fun k61 => ?_) (fun k61 => ?_)
                  · have h := h.1 (xz1 i60 k61)
                    refine x_aload_n 0 rfl dX10_steps_91 ?_
                    refine x_getR (j := 12) (r := 236) ly0 (by decide) rfl rfl (by decide) inT10 fl_X10_83 dX10_steps_92 ?_
                    refine x_iload_n 1 rfl dX10_steps_95 ?_
                    refine x_iconst dX10_steps_96 ?_
                    refine x_icmpne (tgt := 105) hp1 ⟨by decide, by decide⟩ dX10_steps_97 (by decide) (fun k62 => ?_) (fun k62 => ?_)
                    · have h := h.1 k62
                      refine x_iload_n 1 rfl dX10_steps_105 ?_
                      exact x_sub [0, 2, 3, 4] rfl (xX10_steps_b106 x p1 p2 p3 p4 p1 μ57 Q  hp1 hp2 hp3 hp4 h)
                    · have h := h.2 k62
                      refine x_bipush dX10_steps_100 (by decide) ?_
                      refine x_goto (tgt := 106) dX10_steps_102 (by decide) ?_
                      exact x_sub [0, 2, 3, 4] rfl (xX10_steps_b106 x p1 p2 p3 p4 24 μ57 Q  hp1 hp2 hp3 hp4 h)
                  · have h := h.2 k61
                    refine x_aload_n 0 rfl dX10_steps_85 ?_
                    refine x_iconst dX10_steps_86 ?_
                    refine x_callVi (As := [iV 5]) (rest := []) cal_X10_refused ins_X10_refused sel_X10_refused ly0 (by decide) rfl (xX10_refused x 5 _ _ ⟨by decide, by decide⟩ h) rfl ml_X10_116 (xRoom (Nat.le_of_ble_eq_true rfl)) (Nat.le_of_ble_eq_true rfl) dX10_steps_87 (fun r82 μ80 i83 n81 h => ?_)
                    have h := h i83 n81
                    exact x_iret h i83 rfl dX10_steps_90
            · have h := h.2 k38
              refine x_aload_n 0 rfl dX10_steps_55 ?_
              refine x_iconst dX10_steps_56 ?_
              refine x_callVi (As := [iV 2]) (rest := []) cal_X10_refused ins_X10_refused sel_X10_refused ly0 (by decide) rfl (xX10_refused x 2 _ _ ⟨by decide, by decide⟩ h) rfl ml_X10_116 (xRoom (Nat.le_of_ble_eq_true rfl)) (Nat.le_of_ble_eq_true rfl) dX10_steps_57 (fun r86 μ84 i87 n85 h => ?_)
              have h := h i87 n85
              exact x_iret h i87 rfl dX10_steps_60
        · have h := h.2 k32
          refine x_aload_n 0 rfl dX10_steps_37 ?_
          refine x_iconst dX10_steps_38 ?_
          refine x_callVi (As := [iV 1]) (rest := []) cal_X10_refused ins_X10_refused sel_X10_refused ly0 (by decide) rfl (xX10_refused x 1 _ _ ⟨by decide, by decide⟩ h) rfl ml_X10_116 (xRoom (Nat.le_of_ble_eq_true rfl)) (Nat.le_of_ble_eq_true rfl) dX10_steps_39 (fun r90 μ88 i91 n89 h => ?_)
          have h := h i91 n89
          exact x_iret h i91 rfl dX10_steps_42
set_option maxRecDepth 100000 in
set_option maxHeartbeats 4000000 in
theorem xX10_able (x : xX)  (μ : xM) (Q : Int → xM → Prop)  (h : tX10_able  μ Q) : xMet x 32 yX10_able cX10_able 1 (some .int) [.ref (x.2.2.1 + 0)] μ (xQi x Q) := by
  refine xMet_of (by decide +kernel) (Nat.le_of_ble_eq_true rfl) ?_
  show xW x (xRm 32, RX10, cX10_able, 1, (some .int), fun _ _ => True) (xQi x Q) 0 [(0, .ref (x.2.2.1 + 0))] [] μ
  refine x_ran (fun n0 => ?_)
  have h := h n0 
  refine x_aload_n 0 rfl dX10_able_0 ?_
  refine x_getR (j := 2) (r := 39) ly0 (by decide) rfl rfl (by decide) inT10 fl_X10_25 dX10_able_1 ?_
  refine x_callVz (As := []) (rest := []) cal_X2_isOpen ins_X2_isOpen sel_X2_isOpen ly39 (by decide) rfl (xX2_isOpen x 39 _ _ isHouse_39 h) rfl ml_X10_186 (xRoom (Nat.le_of_ble_eq_true rfl)) (Nat.le_of_ble_eq_true rfl) dX10_able_4 (fun r3 μ1 i4 n2 h => ?_)
  have h := h i4 n2
  refine x_ifeq (tgt := 24) (xIz i4)  dX10_able_7 (by decide) (fun k5 => ?_) (fun k5 => ?_)
  · have h := h.1 k5
    refine x_aload_n 0 rfl dX10_able_24 ?_
    refine x_iconst dX10_able_25 ?_
    refine x_callVi (As := [iV 1]) (rest := []) cal_X10_refused ins_X10_refused sel_X10_refused ly0 (by decide) rfl (xX10_refused x 1 _ _ ⟨by decide, by decide⟩ h) rfl ml_X10_116 (xRoom (Nat.le_of_ble_eq_true rfl)) (Nat.le_of_ble_eq_true rfl) dX10_able_26 (fun r8 μ6 i9 n7 h => ?_)
    have h := h i9 n7
    exact x_iret h i9 rfl dX10_able_29
  · have h := h.2 (xz1 i4 k5)
    refine x_aload_n 0 rfl dX10_able_10 ?_
    refine x_aload_n 0 rfl dX10_able_11 ?_
    refine x_getR (j := 10) (r := 232) ly0 (by decide) rfl rfl (by decide) inT10 fl_X10_67 dX10_able_12 ?_
    refine x_callVi (As := []) (rest := [.ref (x.2.2.1 + 0)]) cal_X0_fromBeginning ins_X0_fromBeginning sel_X0_fromBeginning ly232 (by decide) rfl (xX0_fromBeginning x  _ _  h) rfl ml_X10_292 (xRoom (Nat.le_of_ble_eq_true rfl)) (Nat.le_of_ble_eq_true rfl) dX10_able_15 (fun r12 μ10 i13 n11 h => ?_)
    have h := h i13 n11
    refine x_callVi (As := [iV r12]) (rest := []) cal_X10_granted ins_X10_granted sel_X10_granted ly0 (by decide) rfl (xX10_granted x r12 _ _ i13 h) rfl ml_X10_140 (xRoom (Nat.le_of_ble_eq_true rfl)) (Nat.le_of_ble_eq_true rfl) dX10_able_18 (fun r16 μ14 i17 n15 h => ?_)
    have h := h i17 n15
    refine x_goto (tgt := 29) dX10_able_21 (by decide) ?_
    exact x_iret h i17 rfl dX10_able_29
set_option maxRecDepth 100000 in
set_option maxHeartbeats 4000000 in
theorem xX10_sits (x : xX) (p1 : Int) (μ : xM) (Q : Int → xM → Prop) (hp1 : xIn p1) (h : tX10_sits p1 μ Q) : xMet x 34 yX10_sits cX10_sits 3 (some .int) [.ref (x.2.2.1 + 0), iV p1] μ (xQi x Q) := by
  refine xMet_of (by decide +kernel) (Nat.le_of_ble_eq_true rfl) ?_
  show xW x (xRm 34, RX10, cX10_sits, 3, (some .int), fun _ _ => True) (xQi x Q) 0 [(0, .ref (x.2.2.1 + 0)), (1, iV p1)] [] μ
  refine x_ran (fun n0 => ?_)
  have h := h n0 hp1
  refine x_aload_n 0 rfl dX10_sits_0 ?_
  refine x_getR (j := 2) (r := 39) ly0 (by decide) rfl rfl (by decide) inT10 fl_X10_25 dX10_sits_1 ?_
  refine x_callVz (As := []) (rest := []) cal_X2_isOpen ins_X2_isOpen sel_X2_isOpen ly39 (by decide) rfl (xX2_isOpen x 39 _ _ isHouse_39 h) rfl ml_X10_186 (xRoom (Nat.le_of_ble_eq_true rfl)) (Nat.le_of_ble_eq_true rfl) dX10_sits_4 (fun r3 μ1 i4 n2 h => ?_)
  have h := h i4 n2
  refine x_ifeq (tgt := 18) (xIz i4)  dX10_sits_7 (by decide) (fun k5 => ?_) (fun k5 => ?_)
  · have h := h.1 k5
    refine x_aload_n 0 rfl dX10_sits_18 ?_
    refine x_iconst dX10_sits_19 ?_
    refine x_callVi (As := [iV 1]) (rest := []) cal_X10_refused ins_X10_refused sel_X10_refused ly0 (by decide) rfl (xX10_refused x 1 _ _ ⟨by decide, by decide⟩ h) rfl ml_X10_116 (xRoom (Nat.le_of_ble_eq_true rfl)) (Nat.le_of_ble_eq_true rfl) dX10_sits_20 (fun r8 μ6 i9 n7 h => ?_)
    have h := h i9 n7
    exact x_iret h i9 rfl dX10_sits_23
  · have h := h.2 (xz1 i4 k5)
    refine x_aload_n 0 rfl dX10_sits_10 ?_
    refine x_iload_n 1 rfl dX10_sits_11 ?_
    refine x_callVz (As := [iV p1]) (rest := []) cal_X10_isHost ins_X10_isHost sel_X10_isHost ly0 (by decide) rfl (xX10_isHost x p1 _ _ hp1 h) rfl ml_X10_234 (xRoom (Nat.le_of_ble_eq_true rfl)) (Nat.le_of_ble_eq_true rfl) dX10_sits_12 (fun r12 μ10 i13 n11 h => ?_)
    have h := h i13 n11
    refine x_ifne (tgt := 24) (xIz i13)  dX10_sits_15 (by decide) (fun k14 => ?_) (fun k14 => ?_)
    · have h := h.1 (xz1 i13 k14)
      refine x_aload_n 0 rfl dX10_sits_24 ?_
      refine x_getR (j := 15) (r := 251) ly0 (by decide) rfl rfl (by decide) inT10 fl_X10_101 dX10_sits_25 ?_
      refine x_iload_n 1 rfl dX10_sits_28 ?_
      refine x_callVv (As := [iV p1]) (rest := []) cal_X4_begin ins_X4_begin sel_X4_begin ly251 (by decide) rfl (xX4_begin x 251 p1 _ _ isNight_251 hp1 h) rfl ml_X10_130 (xRoom (Nat.le_of_ble_eq_true rfl)) (Nat.le_of_ble_eq_true rfl) dX10_sits_29 (fun μ15 n16 h => ?_)
      have h := h n16
      refine x_iconst dX10_sits_32 ?_
      refine x_istore_n [(2, iV 0), (0, .ref (x.2.2.1 + 0)), (1, iV p1)] dX10_sits_33 (show 2 < 3 by decide) rfl ?_
      refine x_sub [1, 0] rfl ?_
      refine x_loop1 (fun l2_17 => [(0, .ref (x.2.2.1 + 0)), (2, iV l2_17)]) h (fun J34 l2_17 μ18 hJ34 h n19 => ?_)
      refine x_iload_n 1 rfl dX10_sits_34 ?_
      refine x_aload_n 0 rfl dX10_sits_35 ?_
      refine x_getR (j := 2) (r := 39) ly0 (by decide) rfl rfl (by decide) inT10 fl_X10_25 dX10_sits_36 ?_
      refine x_getI (j := 4) ly39 (by decide) rfl rfl (by decide) inT2 fl_X10_137 dX10_sits_39 (fun r20 => ?_)
      obtain ⟨c21, h⟩ := h
      refine x_icmpge (tgt := 62) c21 r20 dX10_sits_42 (by decide) (fun k22 => ?_) (fun k22 => ?_)
      · have h := h.1 k22
        refine x_aload_n 0 rfl dX10_sits_62 ?_
        refine x_aload_n 0 rfl dX10_sits_63 ?_
        refine x_getR (j := 15) (r := 251) ly0 (by decide) rfl rfl (by decide) inT10 fl_X10_101 dX10_sits_64 ?_
        refine x_getI (j := 2) ly251 (by decide) rfl rfl (by decide) inT4 fl_X10_295 dX10_sits_67 (fun r23 => ?_)
        refine x_callSi (As := [iV (μ18 251 2)]) (rest := [.ref (x.2.2.1 + 0)]) cal_J6_bitCount_0f7a4 sta_J6_bitCount_0f7a4 (xJ6_bitCount_0f7a4 x (μ18 251 2) _ _ r23 h) rfl ml_X10_298 (xRoom (Nat.le_of_ble_eq_true rfl)) (Nat.le_of_ble_eq_true rfl) dX10_sits_70 (fun r26 μ24 i27 n25 h => ?_)
        have h := h i27 n25
        refine x_callVi (As := [iV r26]) (rest := []) cal_X10_granted ins_X10_granted sel_X10_granted ly0 (by decide) rfl (xX10_granted x r26 _ _ i27 h) rfl ml_X10_140 (xRoom (Nat.le_of_ble_eq_true rfl)) (Nat.le_of_ble_eq_true rfl) dX10_sits_73 (fun r30 μ28 i31 n29 h => ?_)
        have h := h i31 n29
        exact x_iret h i31 rfl dX10_sits_76
      · have h := h.2 k22
        refine x_aload_n 0 rfl dX10_sits_45 ?_
        refine x_getR (j := 11) (r := 235) ly0 (by decide) rfl rfl (by decide) inT10 fl_X10_76 dX10_sits_46 ?_
        refine x_aload_n 0 rfl dX10_sits_49 ?_
        refine x_getR (j := 15) (r := 251) ly0 (by decide) rfl rfl (by decide) inT10 fl_X10_101 dX10_sits_50 ?_
        refine x_callVv (As := [.ref (x.2.2.1 + 251)]) (rest := []) cal_X8_receive ins_X8_receive sel_X8_receive ly235 (by decide) rfl (xX8_receive x 251 _ _ isNight_251 h) rfl ml_X10_246 (xRoom (Nat.le_of_ble_eq_true rfl)) (Nat.le_of_ble_eq_true rfl) dX10_sits_53 (fun μ32 n33 h => ?_)
        have h := h n33
        refine x_iinc 1 rfl [(2, iV (l2_17 + 1)), (0, .ref (x.2.2.1 + 0))] dX10_sits_56 (show 2 < 3 by decide) rfl ?_
        refine x_goto (tgt := 34) dX10_sits_59 (by decide) ?_
        exact x_sub [1, 0] rfl (hJ34 _ _ h)
    · have h := h.2 k14
      refine x_aload_n 0 rfl dX10_sits_18 ?_
      refine x_iconst dX10_sits_19 ?_
      refine x_callVi (As := [iV 1]) (rest := []) cal_X10_refused ins_X10_refused sel_X10_refused ly0 (by decide) rfl (xX10_refused x 1 _ _ ⟨by decide, by decide⟩ h) rfl ml_X10_116 (xRoom (Nat.le_of_ble_eq_true rfl)) (Nat.le_of_ble_eq_true rfl) dX10_sits_20 (fun r36 μ34 i37 n35 h => ?_)
      have h := h i37 n35
      exact x_iret h i37 rfl dX10_sits_23
set_option maxRecDepth 100000 in
set_option maxHeartbeats 4000000 in
theorem xX10_commonDivisor (x : xX) (p1 : Int) (p2 : Int) (μ : xM) (Q : Int → xM → Prop) (hp1 : xIn p1) (hp2 : xIn p2) (h : tX10_commonDivisor p1 p2 μ Q) : xMet x 5 yX10_commonDivisor cX10_commonDivisor 6 (some .int) [iV p1, iV p2] μ (xQi x Q) := by
  refine xMet_of (by decide +kernel) (Nat.le_of_ble_eq_true rfl) ?_
  show xW x (xRm 5, RX10, cX10_commonDivisor, 6, (some .int), fun _ _ => True) (xQi x Q) 0 [(0, iV p1), (1, iV p2)] [] μ
  refine x_ran (fun n0 => ?_)
  have h := h n0 hp1 hp2
  refine x_iload_n 0 rfl dX10_commonDivisor_0 ?_
  refine x_iload_n 1 rfl dX10_commonDivisor_1 ?_
  refine x_max hp1 hp2 ml_X10_382 (xRoom1 (by decide)) (Nat.le_of_ble_eq_true rfl) dX10_commonDivisor_2 ?_
  refine x_istore_n [(2, iV (max p1 p2)), (0, iV p1), (1, iV p2)] dX10_commonDivisor_5 (show 2 < 6 by decide) rfl ?_
  refine x_iload_n 1 rfl dX10_commonDivisor_6 ?_
  refine x_iload_n 2 rfl dX10_commonDivisor_7 ?_
  refine x_min hp1 hp2 ml_X10_387 (xRoom1 (by decide)) (Nat.le_of_ble_eq_true rfl) dX10_commonDivisor_8 ?_
  refine x_istore_n [(3, iV (min p1 p2)), (2, iV (max p1 p2)), (0, iV p1), (1, iV p2)] dX10_commonDivisor_11 (show 3 < 6 by decide) rfl ?_
  refine x_iconst dX10_commonDivisor_12 ?_
  refine x_istore [(4, iV 0), (3, iV (min p1 p2)), (2, iV (max p1 p2)), (0, iV p1), (1, iV p2)] dX10_commonDivisor_13 (show 4 < 6 by decide) rfl ?_
  refine x_sub [2, 1, 0] rfl ?_
  refine x_loop3 (fun l2_1 l3_2 l4_3 => [(2, iV l2_1), (3, iV l3_2), (4, iV l4_3)]) h (fun J15 l2_1 l3_2 l4_3 μ4 hJ15 h n5 => ?_)
  refine x_iload 2 rfl dX10_commonDivisor_15 ?_
  refine x_bipush dX10_commonDivisor_17 (by decide) ?_
  obtain ⟨c6, h⟩ := h
  refine x_icmpge (tgt := 42) c6 ⟨by decide, by decide⟩ dX10_commonDivisor_19 (by decide) (fun k7 => ?_) (fun k7 => ?_)
  · have h := h.1 k7
    refine x_iload_n 0 rfl dX10_commonDivisor_42 ?_
    obtain ⟨c8, h⟩ := h
    exact x_iret h c8 rfl dX10_commonDivisor_43
  · have h := h.2 k7
    refine x_iload_n 1 rfl dX10_commonDivisor_22 ?_
    obtain ⟨c9, h⟩ := h
    refine x_ifle (tgt := 42) c9  dX10_commonDivisor_23 (by decide) (fun k10 => ?_) (fun k10 => ?_)
    · have h := h.1 k10
      refine x_iload_n 0 rfl dX10_commonDivisor_42 ?_
      obtain ⟨c11, h⟩ := h
      exact x_iret h c11 rfl dX10_commonDivisor_43
    · have h := h.2 k10
      refine x_iload_n 0 rfl dX10_commonDivisor_26 ?_
      refine x_iload_n 1 rfl dX10_commonDivisor_27 ?_
      obtain ⟨c12, h⟩ := h
      obtain ⟨c13, h⟩ := h
      refine x_irem c12 c9 c13 dX10_commonDivisor_28 ?_
      refine x_istore [(5, iV (l2_1.tmod l3_2)), (2, iV l2_1), (3, iV l3_2), (4, iV l4_3)] dX10_commonDivisor_29 (show 5 < 6 by decide) rfl ?_
      refine x_iload_n 2 rfl dX10_commonDivisor_31 ?_
      refine x_istore_n [(2, iV l3_2), (5, iV (l2_1.tmod l3_2)), (3, iV l3_2), (4, iV l4_3)] dX10_commonDivisor_32 (show 2 < 6 by decide) rfl ?_
      refine x_iload 1 rfl dX10_commonDivisor_33 ?_
      refine x_istore_n [(3, iV (l2_1.tmod l3_2)), (2, iV l3_2), (5, iV (l2_1.tmod l3_2)), (4, iV l4_3)] dX10_commonDivisor_35 (show 3 < 6 by decide) rfl ?_
      refine x_iinc 3 rfl [(4, iV (l4_3 + 1)), (3, iV (l2_1.tmod l3_2)), (2, iV l3_2), (5, iV (l2_1.tmod l3_2))] dX10_commonDivisor_36 (show 4 < 6 by decide) rfl ?_
      refine x_goto (tgt := 15) dX10_commonDivisor_39 (by decide) ?_
      exact x_sub [2, 1, 0] rfl (hJ15 _ _ _ _ h)
set_option maxRecDepth 100000 in
set_option maxHeartbeats 4000000 in
theorem xX10_hope (x : xX) (p1 : Int) (p2 : Int) (μ : xM) (Q : Int → xM → Prop) (hp1 : xIn p1) (hp2 : p2 = 0 ∨ p2 = 1) (h : tX10_hope p1 p2 μ Q) : xMet x 24 yX10_hope cX10_hope 6 (some .long) [.ref (x.2.2.1 + 0), iV p1, iV p2] μ (xQl x Q) := by
  refine xMet_of (by decide +kernel) (Nat.le_of_ble_eq_true rfl) ?_
  show xW x (xRm 24, RX10, cX10_hope, 6, (some .long), fun _ _ => True) (xQl x Q) 0 [(0, .ref (x.2.2.1 + 0)), (1, iV p1), (2, iV p2)] [] μ
  refine x_ran (fun n0 => ?_)
  have h := h n0 hp1 hp2
  refine x_aload_n 0 rfl dX10_hope_0 ?_
  refine x_getR (j := 2) (r := 39) ly0 (by decide) rfl rfl (by decide) inT10 fl_X10_25 dX10_hope_1 ?_
  refine x_callVz (As := []) (rest := []) cal_X2_isOpen ins_X2_isOpen sel_X2_isOpen ly39 (by decide) rfl (xX2_isOpen x 39 _ _ isHouse_39 h) rfl ml_X10_186 (xRoom (Nat.le_of_ble_eq_true rfl)) (Nat.le_of_ble_eq_true rfl) dX10_hope_4 (fun r3 μ1 i4 n2 h => ?_)
  have h := h i4 n2
  refine x_ifne (tgt := 17) (xIz i4)  dX10_hope_7 (by decide) (fun k5 => ?_) (fun k5 => ?_)
  · have h := h.1 (xz1 i4 k5)
    refine x_iload_n 1 rfl dX10_hope_17 ?_
    refine x_iconst dX10_hope_18 ?_
    refine x_icmplt (tgt := 27) hp1 ⟨by decide, by decide⟩ dX10_hope_19 (by decide) (fun k6 => ?_) (fun k6 => ?_)
    · have h := h.1 k6
      refine x_aload_n 0 rfl dX10_hope_27 ?_
      refine x_iconst dX10_hope_28 ?_
      refine x_callVi (As := [iV 2]) (rest := []) cal_X10_refused ins_X10_refused sel_X10_refused ly0 (by decide) rfl (xX10_refused x 2 _ _ ⟨by decide, by decide⟩ h) rfl ml_X10_116 (xRoom (Nat.le_of_ble_eq_true rfl)) (Nat.le_of_ble_eq_true rfl) dX10_hope_29 (fun r9 μ7 i10 n8 h => ?_)
      have h := h i10 n8
      refine x_i2l i10 dX10_hope_32 ?_
      exact x_lret h (i10).il rfl dX10_hope_33
    · have h := h.2 k6
      refine x_iload_n 1 rfl dX10_hope_22 ?_
      refine x_iconst dX10_hope_23 ?_
      refine x_icmple (tgt := 34) hp1 ⟨by decide, by decide⟩ dX10_hope_24 (by decide) (fun k11 => ?_) (fun k11 => ?_)
      · have h := h.1 k11
        refine x_aload_n 0 rfl dX10_hope_34 ?_
        refine x_getR (j := 2) (r := 39) ly0 (by decide) rfl rfl (by decide) inT10 fl_X10_25 dX10_hope_35 ?_
        refine x_getI (j := 5) ly39 (by decide) rfl rfl (by decide) inT2 fl_X10_303 dX10_hope_38 (fun r12 => ?_)
        refine x_iconst dX10_hope_41 ?_
        refine x_icmpge (tgt := 53) r12 ⟨by decide, by decide⟩ dX10_hope_42 (by decide) (fun k13 => ?_) (fun k13 => ?_)
        · have h := h.1 k13
          refine x_aload_n 0 rfl dX10_hope_53 ?_
          refine x_getR (j := 10) (r := 232) ly0 (by decide) rfl rfl (by decide) inT10 fl_X10_67 dX10_hope_54 ?_
          refine x_aload_n 0 rfl dX10_hope_57 ?_
          refine x_getR (j := 14) (r := 249) ly0 (by decide) rfl rfl (by decide) inT10 fl_X10_97 dX10_hope_58 ?_
          refine x_iload_n 1 rfl dX10_hope_61 ?_
          refine x_callVi (As := [.ref (x.2.2.1 + 249), iV p1]) (rest := []) cal_X0_hopeFrom ins_X0_hopeFrom sel_X0_hopeFrom ly232 (by decide) rfl (xX0_hopeFrom x 249 p1 _ _ isNight_249 hp1 h) rfl ml_X10_306 (xRoom (Nat.le_of_ble_eq_true rfl)) (Nat.le_of_ble_eq_true rfl) dX10_hope_62 (fun r16 μ14 i17 n15 h => ?_)
          have h := h i17 n15
          refine x_istore_n [(3, iV r16), (0, .ref (x.2.2.1 + 0)), (1, iV p1), (2, iV p2)] dX10_hope_65 (show 3 < 6 by decide) rfl ?_
          refine x_aload_n 1 rfl dX10_hope_66 ?_
          refine x_getR (j := 10) (r := 232) ly0 (by decide) rfl rfl (by decide) inT10 fl_X10_67 dX10_hope_67 ?_
          refine x_iload_n 2 rfl dX10_hope_70 ?_
          refine x_callVi (As := [iV p1]) (rest := []) cal_X0_weightOf ins_X0_weightOf sel_X0_weightOf ly232 (by decide) rfl (xX0_weightOf x p1 _ _ hp1 h) rfl ml_X10_310 (xRoom (Nat.le_of_ble_eq_true rfl)) (Nat.le_of_ble_eq_true rfl) dX10_hope_71 (fun r20 μ18 i21 n19 h => ?_)
          have h := h i21 n19
          refine x_istore [(4, iV r20), (3, iV r16), (0, .ref (x.2.2.1 + 0)), (1, iV p1), (2, iV p2)] dX10_hope_74 (show 4 < 6 by decide) rfl ?_
          refine x_iload_n 1 rfl dX10_hope_76 ?_
          refine x_iload 0 rfl dX10_hope_77 ?_
          refine x_callSi (As := [iV r16, iV r20]) (rest := []) cal_X10_commonDivisor sta_X10_commonDivisor (xX10_commonDivisor x r16 r20 _ _ i17 i21 h) rfl ml_X10_313 (xRoom (Nat.le_of_ble_eq_true rfl)) (Nat.le_of_ble_eq_true rfl) dX10_hope_79 (fun r24 μ22 i25 n23 h => ?_)
          have h := h i25 n23
          refine x_istore [(5, iV r24), (4, iV r20), (3, iV r16), (0, .ref (x.2.2.1 + 0)), (1, iV p1), (2, iV p2)] dX10_hope_82 (show 5 < 6 by decide) rfl ?_
          refine x_aload_n 3 rfl dX10_hope_84 ?_
          refine x_iload 0 rfl dX10_hope_85 ?_
          refine x_iconst dX10_hope_87 ?_
          refine x_icmpge (tgt := 95) i25 ⟨by decide, by decide⟩ dX10_hope_88 (by decide) (fun k26 => ?_) (fun k26 => ?_)
          · have h := h.1 k26
            refine x_iload_n 5 rfl dX10_hope_95 ?_
            refine x_ifeq (tgt := 104) (xIz hp2)  dX10_hope_96 (by decide) (fun k27 => ?_) (fun k27 => ?_)
            · have h := h.1 k27
              refine x_iload_n 2 rfl dX10_hope_104 ?_
              refine x_iload 0 rfl dX10_hope_105 ?_
              obtain ⟨c28, h⟩ := h
              refine x_idiv i17 i25 c28 dX10_hope_107 ?_
              obtain ⟨c29, h⟩ := h
              refine x_callVi (As := [iV (r16.tdiv r24)]) (rest := []) cal_X10_granted ins_X10_granted sel_X10_granted ly0 (by decide) rfl (xX10_granted x (r16.tdiv r24) _ _ c29 h) rfl ml_X10_140 (xRoom (Nat.le_of_ble_eq_true rfl)) (Nat.le_of_ble_eq_true rfl) dX10_hope_108 (fun r32 μ30 i33 n31 h => ?_)
              have h := h i33 n31
              refine x_i2l i33 dX10_hope_111 ?_
              exact x_lret h (i33).il rfl dX10_hope_112
            · have h := h.2 (xz1 hp2 k27)
              refine x_iload 1 rfl dX10_hope_99 ?_
              refine x_goto (tgt := 105) dX10_hope_101 (by decide) ?_
              refine x_iload 0 rfl dX10_hope_105 ?_
              obtain ⟨c34, h⟩ := h
              refine x_idiv i21 i25 c34 dX10_hope_107 ?_
              obtain ⟨c35, h⟩ := h
              refine x_callVi (As := [iV (r20.tdiv r24)]) (rest := []) cal_X10_granted ins_X10_granted sel_X10_granted ly0 (by decide) rfl (xX10_granted x (r20.tdiv r24) _ _ c35 h) rfl ml_X10_140 (xRoom (Nat.le_of_ble_eq_true rfl)) (Nat.le_of_ble_eq_true rfl) dX10_hope_108 (fun r38 μ36 i39 n37 h => ?_)
              have h := h i39 n37
              refine x_i2l i39 dX10_hope_111 ?_
              exact x_lret h (i39).il rfl dX10_hope_112
          · have h := h.2 k26
            refine x_iconst dX10_hope_91 ?_
            refine x_goto (tgt := 108) dX10_hope_92 (by decide) ?_
            refine x_callVi (As := [iV (-1)]) (rest := []) cal_X10_granted ins_X10_granted sel_X10_granted ly0 (by decide) rfl (xX10_granted x (-1) _ _ ⟨by decide, by decide⟩ h) rfl ml_X10_140 (xRoom (Nat.le_of_ble_eq_true rfl)) (Nat.le_of_ble_eq_true rfl) dX10_hope_108 (fun r42 μ40 i43 n41 h => ?_)
            have h := h i43 n41
            refine x_i2l i43 dX10_hope_111 ?_
            exact x_lret h (i43).il rfl dX10_hope_112
        · have h := h.2 k13
          refine x_aload_n 0 rfl dX10_hope_45 ?_
          refine x_bipush dX10_hope_46 (by decide) ?_
          refine x_callVi (As := [iV 6]) (rest := []) cal_X10_refused ins_X10_refused sel_X10_refused ly0 (by decide) rfl (xX10_refused x 6 _ _ ⟨by decide, by decide⟩ h) rfl ml_X10_116 (xRoom (Nat.le_of_ble_eq_true rfl)) (Nat.le_of_ble_eq_true rfl) dX10_hope_48 (fun r46 μ44 i47 n45 h => ?_)
          have h := h i47 n45
          refine x_i2l i47 dX10_hope_51 ?_
          exact x_lret h (i47).il rfl dX10_hope_52
      · have h := h.2 k11
        refine x_aload_n 0 rfl dX10_hope_27 ?_
        refine x_iconst dX10_hope_28 ?_
        refine x_callVi (As := [iV 2]) (rest := []) cal_X10_refused ins_X10_refused sel_X10_refused ly0 (by decide) rfl (xX10_refused x 2 _ _ ⟨by decide, by decide⟩ h) rfl ml_X10_116 (xRoom (Nat.le_of_ble_eq_true rfl)) (Nat.le_of_ble_eq_true rfl) dX10_hope_29 (fun r50 μ48 i51 n49 h => ?_)
        have h := h i51 n49
        refine x_i2l i51 dX10_hope_32 ?_
        exact x_lret h (i51).il rfl dX10_hope_33
  · have h := h.2 k5
    refine x_aload_n 0 rfl dX10_hope_10 ?_
    refine x_iconst dX10_hope_11 ?_
    refine x_callVi (As := [iV 1]) (rest := []) cal_X10_refused ins_X10_refused sel_X10_refused ly0 (by decide) rfl (xX10_refused x 1 _ _ ⟨by decide, by decide⟩ h) rfl ml_X10_116 (xRoom (Nat.le_of_ble_eq_true rfl)) (Nat.le_of_ble_eq_true rfl) dX10_hope_12 (fun r54 μ52 i55 n53 h => ?_)
    have h := h i55 n53
    refine x_i2l i55 dX10_hope_15 ?_
    exact x_lret h (i55).il rfl dX10_hope_16
set_option maxRecDepth 100000 in
set_option maxHeartbeats 4000000 in
theorem xX10_nimTonight (x : xX)  (μ : xM) (Q : Int → xM → Prop)  (h : tX10_nimTonight  μ Q) : xMet x 3 yX10_nimTonight cX10_nimTonight 3 (some .int) [.ref (x.2.2.1 + 0)] μ (xQi x Q) := by
  refine xMet_of (by decide +kernel) (Nat.le_of_ble_eq_true rfl) ?_
  show xW x (xRm 3, RX10, cX10_nimTonight, 3, (some .int), fun _ _ => True) (xQi x Q) 0 [(0, .ref (x.2.2.1 + 0))] [] μ
  refine x_ran (fun n0 => ?_)
  have h := h n0 
  refine x_iconst dX10_nimTonight_0 ?_
  refine x_istore_n [(1, iV 0), (0, .ref (x.2.2.1 + 0))] dX10_nimTonight_1 (show 1 < 3 by decide) rfl ?_
  refine x_iconst dX10_nimTonight_2 ?_
  refine x_istore_n [(2, iV 0), (1, iV 0), (0, .ref (x.2.2.1 + 0))] dX10_nimTonight_3 (show 2 < 3 by decide) rfl ?_
  refine x_sub [2, 1, 0] rfl ?_
  refine x_loop2 (fun l1_1 l2_2 => [(0, .ref (x.2.2.1 + 0)), (1, iV l1_1), (2, iV l2_2)]) h (fun J4 l1_1 l2_2 μ3 hJ4 h n4 => ?_)
  refine x_iload_n 2 rfl dX10_nimTonight_4 ?_
  refine x_aload_n 0 rfl dX10_nimTonight_5 ?_
  refine x_getR (j := 2) (r := 39) ly0 (by decide) rfl rfl (by decide) inT10 fl_X10_25 dX10_nimTonight_6 ?_
  refine x_getI (j := 0) ly39 (by decide) rfl rfl (by decide) inT2 fl_X10_203 dX10_nimTonight_9 (fun r5 => ?_)
  obtain ⟨c6, h⟩ := h
  refine x_icmpge (tgt := 39) c6 r5 dX10_nimTonight_12 (by decide) (fun k7 => ?_) (fun k7 => ?_)
  · have h := h.1 k7
    refine x_iload_n 1 rfl dX10_nimTonight_39 ?_
    obtain ⟨c8, h⟩ := h
    exact x_iret h c8 rfl dX10_nimTonight_40
  · have h := h.2 k7
    refine x_iload_n 1 rfl dX10_nimTonight_15 ?_
    refine x_aload_n 0 rfl dX10_nimTonight_16 ?_
    refine x_getR (j := 3) (r := 73) ly0 (by decide) rfl rfl (by decide) inT10 fl_X10_31 dX10_nimTonight_17 ?_
    refine x_aload_n 0 rfl dX10_nimTonight_20 ?_
    refine x_getR (j := 14) (r := 249) ly0 (by decide) rfl rfl (by decide) inT10 fl_X10_97 dX10_nimTonight_21 ?_
    refine x_iload_n 2 rfl dX10_nimTonight_24 ?_
    refine x_callVi (As := [iV l2_2]) (rest := [.ref (x.2.2.1 + 73), iV l1_1]) cal_X4_at ins_X4_at sel_X4_at ly249 (by decide) rfl (xX4_at x 249 l2_2 _ _ isNight_249 c6 h) rfl ml_X10_250 (xRoom (Nat.le_of_ble_eq_true rfl)) (Nat.le_of_ble_eq_true rfl) dX10_nimTonight_25 (fun r11 μ9 i12 n10 h => ?_)
    have h := h i12 n10
    refine x_callVi (As := [iV r11]) (rest := [iV l1_1]) cal_X1_nimOf ins_X1_nimOf sel_X1_nimOf ly73 (by decide) rfl (xX1_nimOf x r11 _ _ i12 h) rfl ml_X10_190 (xRoom (Nat.le_of_ble_eq_true rfl)) (Nat.le_of_ble_eq_true rfl) dX10_nimTonight_28 (fun r15 μ13 i16 n14 h => ?_)
    have h := h i16 n14
    refine x_ixor dX10_nimTonight_31 ?_
    refine x_istore_n [(1, iV (xXor l1_1 r15)), (0, .ref (x.2.2.1 + 0)), (2, iV l2_2)] dX10_nimTonight_32 (show 1 < 3 by decide) rfl ?_
    refine x_iinc 2 rfl [(2, iV (l2_2 + 1)), (1, iV (xXor l1_1 r15)), (0, .ref (x.2.2.1 + 0))] dX10_nimTonight_33 (show 2 < 3 by decide) rfl ?_
    refine x_goto (tgt := 4) dX10_nimTonight_36 (by decide) ?_
    exact x_sub [2, 1, 0] rfl (hJ4 _ _ _ h)
set_option maxRecDepth 100000 in
set_option maxHeartbeats 4000000 in
theorem xX10_game (x : xX)  (μ : xM) (Q : Int → xM → Prop)  (h : tX10_game  μ Q) : xMet x 4 yX10_game cX10_game 1 (some .int) [.ref (x.2.2.1 + 0)] μ (xQi x Q) := by
  refine xMet_of (by decide +kernel) (Nat.le_of_ble_eq_true rfl) ?_
  show xW x (xRm 4, RX10, cX10_game, 1, (some .int), fun _ _ => True) (xQi x Q) 0 [(0, .ref (x.2.2.1 + 0))] [] μ
  refine x_ran (fun n0 => ?_)
  have h := h n0 
  refine x_aload_n 0 rfl dX10_game_0 ?_
  refine x_getR (j := 2) (r := 39) ly0 (by decide) rfl rfl (by decide) inT10 fl_X10_25 dX10_game_1 ?_
  refine x_callVz (As := []) (rest := []) cal_X2_isOpen ins_X2_isOpen sel_X2_isOpen ly39 (by decide) rfl (xX2_isOpen x 39 _ _ isHouse_39 h) rfl ml_X10_186 (xRoom (Nat.le_of_ble_eq_true rfl)) (Nat.le_of_ble_eq_true rfl) dX10_game_4 (fun r3 μ1 i4 n2 h => ?_)
  have h := h i4 n2
  refine x_ifeq (tgt := 21) (xIz i4)  dX10_game_7 (by decide) (fun k5 => ?_) (fun k5 => ?_)
  · have h := h.1 k5
    refine x_aload_n 0 rfl dX10_game_21 ?_
    refine x_iconst dX10_game_22 ?_
    refine x_callVi (As := [iV 1]) (rest := []) cal_X10_refused ins_X10_refused sel_X10_refused ly0 (by decide) rfl (xX10_refused x 1 _ _ ⟨by decide, by decide⟩ h) rfl ml_X10_116 (xRoom (Nat.le_of_ble_eq_true rfl)) (Nat.le_of_ble_eq_true rfl) dX10_game_23 (fun r8 μ6 i9 n7 h => ?_)
    have h := h i9 n7
    exact x_iret h i9 rfl dX10_game_26
  · have h := h.2 (xz1 i4 k5)
    refine x_aload_n 0 rfl dX10_game_10 ?_
    refine x_aload_n 0 rfl dX10_game_11 ?_
    refine x_callVi (As := []) (rest := [.ref (x.2.2.1 + 0)]) cal_X10_nimTonight ins_X10_nimTonight sel_X10_nimTonight ly0 (by decide) rfl (xX10_nimTonight x  _ _  h) rfl ml_X10_316 (xRoom (Nat.le_of_ble_eq_true rfl)) (Nat.le_of_ble_eq_true rfl) dX10_game_12 (fun r12 μ10 i13 n11 h => ?_)
    have h := h i13 n11
    refine x_callVi (As := [iV r12]) (rest := []) cal_X10_granted ins_X10_granted sel_X10_granted ly0 (by decide) rfl (xX10_granted x r12 _ _ i13 h) rfl ml_X10_140 (xRoom (Nat.le_of_ble_eq_true rfl)) (Nat.le_of_ble_eq_true rfl) dX10_game_15 (fun r16 μ14 i17 n15 h => ?_)
    have h := h i17 n15
    refine x_goto (tgt := 26) dX10_game_18 (by decide) ?_
    exact x_iret h i17 rfl dX10_game_26
set_option maxRecDepth 100000 in
set_option maxHeartbeats 4000000 in
theorem xX10_move (x : xX)  (μ : xM) (Q : Int → xM → Prop)  (h : tX10_move  μ Q) : xMet x 4 yX10_move cX10_move 7 (some .int) [.ref (x.2.2.1 + 0)] μ (xQi x Q) := by
  refine xMet_of (by decide +kernel) (Nat.le_of_ble_eq_true rfl) ?_
  show xW x (xRm 4, RX10, cX10_move, 7, (some .int), fun _ _ => True) (xQi x Q) 0 [(0, .ref (x.2.2.1 + 0))] [] μ
  refine x_ran (fun n0 => ?_)
  have h := h n0 
  refine x_aload_n 0 rfl dX10_move_0 ?_
  refine x_getR (j := 2) (r := 39) ly0 (by decide) rfl rfl (by decide) inT10 fl_X10_25 dX10_move_1 ?_
  refine x_callVz (As := []) (rest := []) cal_X2_isOpen ins_X2_isOpen sel_X2_isOpen ly39 (by decide) rfl (xX2_isOpen x 39 _ _ isHouse_39 h) rfl ml_X10_186 (xRoom (Nat.le_of_ble_eq_true rfl)) (Nat.le_of_ble_eq_true rfl) dX10_move_4 (fun r3 μ1 i4 n2 h => ?_)
  have h := h i4 n2
  refine x_ifne (tgt := 16) (xIz i4)  dX10_move_7 (by decide) (fun k5 => ?_) (fun k5 => ?_)
  · have h := h.1 (xz1 i4 k5)
    refine x_aload_n 0 rfl dX10_move_16 ?_
    refine x_callVi (As := []) (rest := []) cal_X10_nimTonight ins_X10_nimTonight sel_X10_nimTonight ly0 (by decide) rfl (xX10_nimTonight x  _ _  h) rfl ml_X10_316 (xRoom (Nat.le_of_ble_eq_true rfl)) (Nat.le_of_ble_eq_true rfl) dX10_move_17 (fun r8 μ6 i9 n7 h => ?_)
    have h := h i9 n7
    refine x_istore_n [(1, iV r8), (0, .ref (x.2.2.1 + 0))] dX10_move_20 (show 1 < 7 by decide) rfl ?_
    refine x_iconst dX10_move_21 ?_
    refine x_istore_n [(2, iV 0), (1, iV r8), (0, .ref (x.2.2.1 + 0))] dX10_move_22 (show 2 < 7 by decide) rfl ?_
    refine x_sub [2, 1, 0] rfl ?_
    refine x_loop1 (fun l2_10 => [(0, .ref (x.2.2.1 + 0)), (1, iV r8), (2, iV l2_10)]) h (fun J23 l2_10 μ11 hJ23 h n12 => ?_)
    refine x_iload_n 2 rfl dX10_move_23 ?_
    refine x_aload_n 0 rfl dX10_move_24 ?_
    refine x_getR (j := 2) (r := 39) ly0 (by decide) rfl rfl (by decide) inT10 fl_X10_25 dX10_move_25 ?_
    refine x_getI (j := 0) ly39 (by decide) rfl rfl (by decide) inT2 fl_X10_203 dX10_move_28 (fun r13 => ?_)
    obtain ⟨c14, h⟩ := h
    refine x_icmpge (tgt := 121) c14 r13 dX10_move_31 (by decide) (fun k15 => ?_) (fun k15 => ?_)
    · have h := h.1 k15
      refine x_aload_n 0 rfl dX10_move_121 ?_
      refine x_bipush dX10_move_122 (by decide) ?_
      refine x_callVi (As := [iV (-2)]) (rest := []) cal_X10_granted ins_X10_granted sel_X10_granted ly0 (by decide) rfl (xX10_granted x (-2) _ _ ⟨by decide, by decide⟩ h) rfl ml_X10_140 (xRoom (Nat.le_of_ble_eq_true rfl)) (Nat.le_of_ble_eq_true rfl) dX10_move_124 (fun r18 μ16 i19 n17 h => ?_)
      have h := h i19 n17
      exact x_iret h i19 rfl dX10_move_127
    · have h := h.2 k15
      refine x_aload_n 0 rfl dX10_move_34 ?_
      refine x_getR (j := 14) (r := 249) ly0 (by decide) rfl rfl (by decide) inT10 fl_X10_97 dX10_move_35 ?_
      refine x_iload_n 2 rfl dX10_move_38 ?_
      refine x_callVi (As := [iV l2_10]) (rest := []) cal_X4_at ins_X4_at sel_X4_at ly249 (by decide) rfl (xX4_at x 249 l2_10 _ _ isNight_249 c14 h) rfl ml_X10_250 (xRoom (Nat.le_of_ble_eq_true rfl)) (Nat.le_of_ble_eq_true rfl) dX10_move_39 (fun r22 μ20 i23 n21 h => ?_)
      have h := h i23 n21
      refine x_istore_n [(3, iV r22), (0, .ref (x.2.2.1 + 0)), (1, iV r8), (2, iV l2_10)] dX10_move_42 (show 3 < 7 by decide) rfl ?_
      refine x_iload_n 2 rfl dX10_move_43 ?_
      refine x_aload_n 1 rfl dX10_move_44 ?_
      refine x_getR (j := 3) (r := 73) ly0 (by decide) rfl rfl (by decide) inT10 fl_X10_31 dX10_move_45 ?_
      refine x_iload_n 0 rfl dX10_move_48 ?_
      refine x_callVi (As := [iV r22]) (rest := [iV r8]) cal_X1_nimOf ins_X1_nimOf sel_X1_nimOf ly73 (by decide) rfl (xX1_nimOf x r22 _ _ i23 h) rfl ml_X10_190 (xRoom (Nat.le_of_ble_eq_true rfl)) (Nat.le_of_ble_eq_true rfl) dX10_move_49 (fun r26 μ24 i27 n25 h => ?_)
      have h := h i27 n25
      refine x_ixor dX10_move_52 ?_
      refine x_istore [(4, iV (xXor r8 r26)), (3, iV r22), (0, .ref (x.2.2.1 + 0)), (1, iV r8), (2, iV l2_10)] dX10_move_53 (show 4 < 7 by decide) rfl ?_
      refine x_iconst dX10_move_55 ?_
      refine x_istore [(5, iV 0), (4, iV (xXor r8 r26)), (3, iV r22), (0, .ref (x.2.2.1 + 0)), (1, iV r8), (2, iV l2_10)] dX10_move_56 (show 5 < 7 by decide) rfl ?_
      refine x_sub [3, 4, 5, 2, 1, 0] rfl ?_
      refine x_loop1 (fun l5_28 => [(0, .ref (x.2.2.1 + 0)), (1, iV r8), (2, iV l2_10), (3, iV r22), (4, iV (xXor r8 r26)), (5, iV l5_28)]) h (fun J58 l5_28 μ29 hJ58 h n30 => ?_)
      refine x_iload 5 rfl dX10_move_58 ?_
      refine x_aload_n 0 rfl dX10_move_60 ?_
      refine x_getR (j := 3) (r := 73) ly0 (by decide) rfl rfl (by decide) inT10 fl_X10_31 dX10_move_61 ?_
      refine x_iload_n 3 rfl dX10_move_64 ?_
      refine x_callVi (As := [iV r22]) (rest := [iV l5_28]) cal_X1_ups ins_X1_ups sel_X1_ups ly73 (by decide) rfl (xX1_ups x r22 _ _ i23 h) rfl ml_X10_319 (xRoom (Nat.le_of_ble_eq_true rfl)) (Nat.le_of_ble_eq_true rfl) dX10_move_65 (fun r33 μ31 i34 n32 h => ?_)
      have h := h i34 n32
      obtain ⟨c35, h⟩ := h
      refine x_icmpge (tgt := 115) c35 i34 dX10_move_68 (by decide) (fun k36 => ?_) (fun k36 => ?_)
      · have h := h.1 k36
        refine x_iinc 2 rfl [(2, iV (l2_10 + 1)), (0, .ref (x.2.2.1 + 0)), (1, iV r8), (3, iV r22), (4, iV (xXor r8 r26)), (5, iV l5_28)] dX10_move_115 (show 2 < 7 by decide) rfl ?_
        refine x_goto (tgt := 23) dX10_move_118 (by decide) ?_
        exact x_sub [1, 2, 0] rfl (hJ23 _ _ h)
      · have h := h.2 k36
        refine x_aload_n 0 rfl dX10_move_71 ?_
        refine x_getR (j := 3) (r := 73) ly0 (by decide) rfl rfl (by decide) inT10 fl_X10_31 dX10_move_72 ?_
        refine x_iload_n 3 rfl dX10_move_75 ?_
        refine x_iload 5 rfl dX10_move_76 ?_
        refine x_callVi (As := [iV r22, iV l5_28]) (rest := []) cal_X1_upOf ins_X1_upOf sel_X1_upOf ly73 (by decide) rfl (xX1_upOf x r22 l5_28 _ _ i23 c35 h) rfl ml_X10_322 (xRoom (Nat.le_of_ble_eq_true rfl)) (Nat.le_of_ble_eq_true rfl) dX10_move_78 (fun r39 μ37 i40 n38 h => ?_)
        have h := h i40 n38
        refine x_istore [(6, iV r39), (0, .ref (x.2.2.1 + 0)), (1, iV r8), (2, iV l2_10), (3, iV r22), (4, iV (xXor r8 r26)), (5, iV l5_28)] dX10_move_81 (show 6 < 7 by decide) rfl ?_
        refine x_aload_n 1 rfl dX10_move_83 ?_
        refine x_getR (j := 3) (r := 73) ly0 (by decide) rfl rfl (by decide) inT10 fl_X10_31 dX10_move_84 ?_
        refine x_iload 0 rfl dX10_move_87 ?_
        refine x_callVi (As := [iV r39]) (rest := []) cal_X1_nimOf ins_X1_nimOf sel_X1_nimOf ly73 (by decide) rfl (xX1_nimOf x r39 _ _ i40 h) rfl ml_X10_190 (xRoom (Nat.le_of_ble_eq_true rfl)) (Nat.le_of_ble_eq_true rfl) dX10_move_89 (fun r43 μ41 i44 n42 h => ?_)
        have h := h i44 n42
        refine x_iload 5 rfl dX10_move_92 ?_
        refine x_icmpne (tgt := 109) i44 (xXor_in _ _) dX10_move_94 (by decide) (fun k45 => ?_) (fun k45 => ?_)
        · have h := h.1 k45
          refine x_iinc 6 rfl [(5, iV (l5_28 + 1)), (6, iV r39), (0, .ref (x.2.2.1 + 0)), (1, iV r8), (2, iV l2_10), (3, iV r22), (4, iV (xXor r8 r26))] dX10_move_109 (show 5 < 7 by decide) rfl ?_
          refine x_goto (tgt := 58) dX10_move_112 (by decide) ?_
          exact x_sub [2, 3, 4, 5, 6, 0] rfl (hJ58 _ _ h)
        · have h := h.2 k45
          refine x_aload_n 1 rfl dX10_move_97 ?_
          refine x_bipush dX10_move_98 (by decide) ?_
          refine x_iload_n 3 rfl dX10_move_100 ?_
          refine x_imul dX10_move_101 ?_
          refine x_iload 0 rfl dX10_move_102 ?_
          refine x_iadd dX10_move_104 ?_
          obtain ⟨c46, h⟩ := h
          refine x_callVi (As := [iV ((24 * l2_10) + r39)]) (rest := []) cal_X10_granted ins_X10_granted sel_X10_granted ly0 (by decide) rfl (xX10_granted x ((24 * l2_10) + r39) _ _ c46 h) rfl ml_X10_140 (xRoom (Nat.le_of_ble_eq_true rfl)) (Nat.le_of_ble_eq_true rfl) dX10_move_105 (fun r49 μ47 i50 n48 h => ?_)
          have h := h i50 n48
          exact x_iret h i50 rfl dX10_move_108
  · have h := h.2 k5
    refine x_aload_n 0 rfl dX10_move_10 ?_
    refine x_iconst dX10_move_11 ?_
    refine x_callVi (As := [iV 1]) (rest := []) cal_X10_refused ins_X10_refused sel_X10_refused ly0 (by decide) rfl (xX10_refused x 1 _ _ ⟨by decide, by decide⟩ h) rfl ml_X10_116 (xRoom (Nat.le_of_ble_eq_true rfl)) (Nat.le_of_ble_eq_true rfl) dX10_move_12 (fun r53 μ51 i54 n52 h => ?_)
    have h := h i54 n52
    exact x_iret h i54 rfl dX10_move_15
set_option maxRecDepth 100000 in
set_option maxHeartbeats 4000000 in
theorem xX10_mark (x : xX)  (μ : xM) (Q : Int → xM → Prop)  (h : tX10_mark  μ Q) : xMet x 6 yX10_mark cX10_mark 1 (some .int) [.ref (x.2.2.1 + 0)] μ (xQi x Q) := by
  refine xMet_of (by decide +kernel) (Nat.le_of_ble_eq_true rfl) ?_
  show xW x (xRm 6, RX10, cX10_mark, 1, (some .int), fun _ _ => True) (xQi x Q) 0 [(0, .ref (x.2.2.1 + 0))] [] μ
  refine x_ran (fun n0 => ?_)
  have h := h n0 
  refine x_aload_n 0 rfl dX10_mark_0 ?_
  refine x_getR (j := 2) (r := 39) ly0 (by decide) rfl rfl (by decide) inT10 fl_X10_25 dX10_mark_1 ?_
  refine x_callVz (As := []) (rest := []) cal_X2_isOpen ins_X2_isOpen sel_X2_isOpen ly39 (by decide) rfl (xX2_isOpen x 39 _ _ isHouse_39 h) rfl ml_X10_186 (xRoom (Nat.le_of_ble_eq_true rfl)) (Nat.le_of_ble_eq_true rfl) dX10_mark_4 (fun r3 μ1 i4 n2 h => ?_)
  have h := h i4 n2
  refine x_ifne (tgt := 16) (xIz i4)  dX10_mark_7 (by decide) (fun k5 => ?_) (fun k5 => ?_)
  · have h := h.1 (xz1 i4 k5)
    refine x_aload_n 0 rfl dX10_mark_16 ?_
    refine x_getI (j := 17) ly0 (by decide) rfl rfl (by decide) inT10 fl_X10_325 dX10_mark_17 (fun r6 => ?_)
    refine x_iflt (tgt := 31) r6  dX10_mark_20 (by decide) (fun k7 => ?_) (fun k7 => ?_)
    · have h := h.1 k7
      refine x_aload_n 0 rfl dX10_mark_31 ?_
      refine x_iconst dX10_mark_32 ?_
      refine x_callVi (As := [iV 3]) (rest := []) cal_X10_refused ins_X10_refused sel_X10_refused ly0 (by decide) rfl (xX10_refused x 3 _ _ ⟨by decide, by decide⟩ h) rfl ml_X10_116 (xRoom (Nat.le_of_ble_eq_true rfl)) (Nat.le_of_ble_eq_true rfl) dX10_mark_33 (fun r10 μ8 i11 n9 h => ?_)
      have h := h i11 n9
      exact x_iret h i11 rfl dX10_mark_36
    · have h := h.2 k7
      refine x_aload_n 0 rfl dX10_mark_23 ?_
      refine x_getI (j := 17) ly0 (by decide) rfl rfl (by decide) inT10 fl_X10_325 dX10_mark_24 (fun r12 => ?_)
      refine x_iconst dX10_mark_27 ?_
      refine x_icmplt (tgt := 37) r12 ⟨by decide, by decide⟩ dX10_mark_28 (by decide) (fun k13 => ?_) (fun k13 => ?_)
      · have h := h.1 k13
        refine x_aload_n 0 rfl dX10_mark_37 ?_
        refine x_getR (j := 16) (r := 253) ly0 (by decide) rfl rfl (by decide) inT10 fl_X10_104 dX10_mark_38 ?_
        refine x_aload_n 0 rfl dX10_mark_41 ?_
        refine x_getI (j := 17) ly0 (by decide) rfl rfl (by decide) inT10 fl_X10_325 dX10_mark_42 (fun r14 => ?_)
        obtain ⟨c15, h⟩ := h
        refine x_aaldN ly253 c15.1 c15.2 r14 (by decide) dX10_mark_45 ?_
        refine x_aload_n 0 rfl dX10_mark_46 ?_
        refine x_getR (j := 14) (r := 249) ly0 (by decide) rfl rfl (by decide) inT10 fl_X10_97 dX10_mark_47 ?_
        refine x_callVv (As := [.ref (x.2.2.1 + 249)]) (rest := []) cal_X4_copyFrom ins_X4_copyFrom sel_X4_copyFrom (isNight_m ((μ1 0 17).toNat) (by omega)).1 (by have := (isNight_m ((μ1 0 17).toNat) (by omega)).2.1; omega) rfl (xX4_copyFrom x (254 + 2 * (μ1 0 17).toNat) 249 _ _ (isNight_m ((μ1 0 17).toNat) (by omega)) isNight_249 h) rfl ml_X10_328 (xRoom (Nat.le_of_ble_eq_true rfl)) (Nat.le_of_ble_eq_true rfl) dX10_mark_50 (fun μ16 n17 h => ?_)
        have h := h n17
        refine x_aload_n 0 rfl dX10_mark_53 ?_
        refine x_dup rfl dX10_mark_54 ?_
        refine x_getI (j := 17) ly0 (by decide) rfl rfl (by decide) inT10 fl_X10_325 dX10_mark_55 (fun r18 => ?_)
        refine x_iconst dX10_mark_58 ?_
        refine x_iadd dX10_mark_59 ?_
        obtain ⟨c19, h⟩ := h
        refine x_putI (j := 17) ly0 (by decide) rfl rfl (by decide) inT10 fl_X10_325 tyX10 tyX10_ok nmX10 rfl c19 (by decide +kernel) dX10_mark_60 (fun μ20 e22 n21 => ?_)
        have h := h μ20 e22 n21
        refine x_aload_n 0 rfl dX10_mark_63 ?_
        refine x_aload_n 0 rfl dX10_mark_64 ?_
        refine x_getI (j := 17) ly0 (by decide) rfl rfl (by decide) inT10 fl_X10_325 dX10_mark_65 (fun r23 => ?_)
        refine x_iconst dX10_mark_68 ?_
        refine x_isub dX10_mark_69 ?_
        obtain ⟨c24, h⟩ := h
        refine x_callVi (As := [iV ((μ20 0 17) - 1)]) (rest := []) cal_X10_granted ins_X10_granted sel_X10_granted ly0 (by decide) rfl (xX10_granted x ((μ20 0 17) - 1) _ _ c24 h) rfl ml_X10_140 (xRoom (Nat.le_of_ble_eq_true rfl)) (Nat.le_of_ble_eq_true rfl) dX10_mark_70 (fun r27 μ25 i28 n26 h => ?_)
        have h := h i28 n26
        exact x_iret h i28 rfl dX10_mark_73
      · have h := h.2 k13
        refine x_aload_n 0 rfl dX10_mark_31 ?_
        refine x_iconst dX10_mark_32 ?_
        refine x_callVi (As := [iV 3]) (rest := []) cal_X10_refused ins_X10_refused sel_X10_refused ly0 (by decide) rfl (xX10_refused x 3 _ _ ⟨by decide, by decide⟩ h) rfl ml_X10_116 (xRoom (Nat.le_of_ble_eq_true rfl)) (Nat.le_of_ble_eq_true rfl) dX10_mark_33 (fun r31 μ29 i32 n30 h => ?_)
        have h := h i32 n30
        exact x_iret h i32 rfl dX10_mark_36
  · have h := h.2 k5
    refine x_aload_n 0 rfl dX10_mark_10 ?_
    refine x_iconst dX10_mark_11 ?_
    refine x_callVi (As := [iV 1]) (rest := []) cal_X10_refused ins_X10_refused sel_X10_refused ly0 (by decide) rfl (xX10_refused x 1 _ _ ⟨by decide, by decide⟩ h) rfl ml_X10_116 (xRoom (Nat.le_of_ble_eq_true rfl)) (Nat.le_of_ble_eq_true rfl) dX10_mark_12 (fun r35 μ33 i36 n34 h => ?_)
    have h := h i36 n34
    exact x_iret h i36 rfl dX10_mark_15
set_option maxRecDepth 100000 in
set_option maxHeartbeats 4000000 in
theorem xX10_back (x : xX) (p1 : Int) (μ : xM) (Q : Int → xM → Prop) (hp1 : xIn p1) (h : tX10_back p1 μ Q) : xMet x 6 yX10_back cX10_back 2 (some .boolean) [.ref (x.2.2.1 + 0), iV p1] μ (xQz x Q) := by
  refine xMet_of (by decide +kernel) (Nat.le_of_ble_eq_true rfl) ?_
  show xW x (xRm 6, RX10, cX10_back, 2, (some .boolean), fun _ _ => True) (xQz x Q) 0 [(0, .ref (x.2.2.1 + 0)), (1, iV p1)] [] μ
  refine x_ran (fun n0 => ?_)
  have h := h n0 hp1
  refine x_iload_n 1 rfl dX10_back_0 ?_
  refine x_iflt (tgt := 17) hp1  dX10_back_1 (by decide) (fun k1 => ?_) (fun k1 => ?_)
  · have h := h.1 k1
    refine x_aload_n 0 rfl dX10_back_17 ?_
    refine x_iconst dX10_back_18 ?_
    refine x_callVz (As := [iV 1]) (rest := []) cal_X10_denied ins_X10_denied sel_X10_denied ly0 (by decide) rfl (xX10_denied x 1 _ _ ⟨by decide, by decide⟩ h) rfl ml_X10_237 (xRoom (Nat.le_of_ble_eq_true rfl)) (Nat.le_of_ble_eq_true rfl) dX10_back_19 (fun r4 μ2 i5 n3 h => ?_)
    have h := h i5 n3
    exact x_zret h i5 rfl dX10_back_22
  · have h := h.2 k1
    refine x_iload_n 1 rfl dX10_back_4 ?_
    refine x_aload_n 0 rfl dX10_back_5 ?_
    refine x_getI (j := 17) ly0 (by decide) rfl rfl (by decide) inT10 fl_X10_325 dX10_back_6 (fun r6 => ?_)
    refine x_icmpge (tgt := 17) hp1 r6 dX10_back_9 (by decide) (fun k7 => ?_) (fun k7 => ?_)
    · have h := h.1 k7
      refine x_aload_n 0 rfl dX10_back_17 ?_
      refine x_iconst dX10_back_18 ?_
      refine x_callVz (As := [iV 1]) (rest := []) cal_X10_denied ins_X10_denied sel_X10_denied ly0 (by decide) rfl (xX10_denied x 1 _ _ ⟨by decide, by decide⟩ h) rfl ml_X10_237 (xRoom (Nat.le_of_ble_eq_true rfl)) (Nat.le_of_ble_eq_true rfl) dX10_back_19 (fun r10 μ8 i11 n9 h => ?_)
      have h := h i11 n9
      exact x_zret h i11 rfl dX10_back_22
    · have h := h.2 k7
      refine x_iload_n 1 rfl dX10_back_12 ?_
      refine x_iconst dX10_back_13 ?_
      refine x_icmplt (tgt := 23) hp1 ⟨by decide, by decide⟩ dX10_back_14 (by decide) (fun k12 => ?_) (fun k12 => ?_)
      · have h := h.1 k12
        refine x_aload_n 0 rfl dX10_back_23 ?_
        refine x_getR (j := 14) (r := 249) ly0 (by decide) rfl rfl (by decide) inT10 fl_X10_97 dX10_back_24 ?_
        refine x_aload_n 0 rfl dX10_back_27 ?_
        refine x_getR (j := 16) (r := 253) ly0 (by decide) rfl rfl (by decide) inT10 fl_X10_104 dX10_back_28 ?_
        refine x_iload_n 1 rfl dX10_back_31 ?_
        obtain ⟨c13, h⟩ := h
        refine x_aaldN ly253 c13.1 c13.2 hp1 (by decide) dX10_back_32 ?_
        refine x_callVv (As := [.ref (x.2.2.1 + (254 + 2 * p1.toNat))]) (rest := []) cal_X4_copyFrom ins_X4_copyFrom sel_X4_copyFrom ly249 (by decide) rfl (xX4_copyFrom x 249 (254 + 2 * p1.toNat) _ _ isNight_249 (isNight_m p1.toNat (by omega)) h) rfl ml_X10_328 (xRoom (Nat.le_of_ble_eq_true rfl)) (Nat.le_of_ble_eq_true rfl) dX10_back_33 (fun μ14 n15 h => ?_)
        have h := h n15
        refine x_aload_n 0 rfl dX10_back_36 ?_
        refine x_callVz (As := []) (rest := []) cal_X10_allowed ins_X10_allowed sel_X10_allowed ly0 (by decide) rfl (xX10_allowed x  _ _  h) rfl ml_X10_240 (xRoom (Nat.le_of_ble_eq_true rfl)) (Nat.le_of_ble_eq_true rfl) dX10_back_37 (fun r18 μ16 i19 n17 h => ?_)
        have h := h i19 n17
        exact x_zret h i19 rfl dX10_back_40
      · have h := h.2 k12
        refine x_aload_n 0 rfl dX10_back_17 ?_
        refine x_iconst dX10_back_18 ?_
        refine x_callVz (As := [iV 1]) (rest := []) cal_X10_denied ins_X10_denied sel_X10_denied ly0 (by decide) rfl (xX10_denied x 1 _ _ ⟨by decide, by decide⟩ h) rfl ml_X10_237 (xRoom (Nat.le_of_ble_eq_true rfl)) (Nat.le_of_ble_eq_true rfl) dX10_back_19 (fun r22 μ20 i23 n21 h => ?_)
        have h := h i23 n21
        exact x_zret h i23 rfl dX10_back_22
set_option maxRecDepth 100000 in
set_option maxHeartbeats 4000000 in
theorem xX10_wrong (x : xX)  (μ : xM) (Q : Int → xM → Prop)  (h : tX10_wrong  μ Q) : xMet x 5 yX10_wrong cX10_wrong 1 (some .int) [.ref (x.2.2.1 + 0)] μ (xQi x Q) := by
  refine xMet_of (by decide +kernel) (Nat.le_of_ble_eq_true rfl) ?_
  show xW x (xRm 5, RX10, cX10_wrong, 1, (some .int), fun _ _ => True) (xQi x Q) 0 [(0, .ref (x.2.2.1 + 0))] [] μ
  refine x_ran (fun n0 => ?_)
  have h := h n0 
  refine x_aload_n 0 rfl dX10_wrong_0 ?_
  refine x_getR (j := 2) (r := 39) ly0 (by decide) rfl rfl (by decide) inT10 fl_X10_25 dX10_wrong_1 ?_
  refine x_callVz (As := []) (rest := []) cal_X2_isOpen ins_X2_isOpen sel_X2_isOpen ly39 (by decide) rfl (xX2_isOpen x 39 _ _ isHouse_39 h) rfl ml_X10_186 (xRoom (Nat.le_of_ble_eq_true rfl)) (Nat.le_of_ble_eq_true rfl) dX10_wrong_4 (fun r3 μ1 i4 n2 h => ?_)
  have h := h i4 n2
  refine x_ifne (tgt := 16) (xIz i4)  dX10_wrong_7 (by decide) (fun k5 => ?_) (fun k5 => ?_)
  · have h := h.1 (xz1 i4 k5)
    refine x_aload_n 0 rfl dX10_wrong_16 ?_
    refine x_getR (j := 2) (r := 39) ly0 (by decide) rfl rfl (by decide) inT10 fl_X10_25 dX10_wrong_17 ?_
    refine x_getI (j := 6) ly39 (by decide) rfl rfl (by decide) inT2 fl_X10_330 dX10_wrong_20 (fun r6 => ?_)
    refine x_iconst dX10_wrong_23 ?_
    refine x_icmpge (tgt := 34) r6 ⟨by decide, by decide⟩ dX10_wrong_24 (by decide) (fun k7 => ?_) (fun k7 => ?_)
    · have h := h.1 k7
      refine x_aload_n 0 rfl dX10_wrong_34 ?_
      refine x_aload_n 0 rfl dX10_wrong_35 ?_
      refine x_getR (j := 13) (r := 247) ly0 (by decide) rfl rfl (by decide) inT10 fl_X10_90 dX10_wrong_36 ?_
      refine x_callVi (As := []) (rest := [.ref (x.2.2.1 + 0)]) cal_X6_firstWrong ins_X6_firstWrong sel_X6_firstWrong ly247 (by decide) rfl (xX6_firstWrong x  _ _  h) rfl ml_X10_333 (xRoom (Nat.le_of_ble_eq_true rfl)) (Nat.le_of_ble_eq_true rfl) dX10_wrong_39 (fun r10 μ8 i11 n9 h => ?_)
      have h := h i11 n9
      refine x_callVi (As := [iV r10]) (rest := []) cal_X10_granted ins_X10_granted sel_X10_granted ly0 (by decide) rfl (xX10_granted x r10 _ _ i11 h) rfl ml_X10_140 (xRoom (Nat.le_of_ble_eq_true rfl)) (Nat.le_of_ble_eq_true rfl) dX10_wrong_42 (fun r14 μ12 i15 n13 h => ?_)
      have h := h i15 n13
      exact x_iret h i15 rfl dX10_wrong_45
    · have h := h.2 k7
      refine x_aload_n 0 rfl dX10_wrong_27 ?_
      refine x_bipush dX10_wrong_28 (by decide) ?_
      refine x_callVi (As := [iV 6]) (rest := []) cal_X10_refused ins_X10_refused sel_X10_refused ly0 (by decide) rfl (xX10_refused x 6 _ _ ⟨by decide, by decide⟩ h) rfl ml_X10_116 (xRoom (Nat.le_of_ble_eq_true rfl)) (Nat.le_of_ble_eq_true rfl) dX10_wrong_30 (fun r18 μ16 i19 n17 h => ?_)
      have h := h i19 n17
      exact x_iret h i19 rfl dX10_wrong_33
  · have h := h.2 k5
    refine x_aload_n 0 rfl dX10_wrong_10 ?_
    refine x_iconst dX10_wrong_11 ?_
    refine x_callVi (As := [iV 1]) (rest := []) cal_X10_refused ins_X10_refused sel_X10_refused ly0 (by decide) rfl (xX10_refused x 1 _ _ ⟨by decide, by decide⟩ h) rfl ml_X10_116 (xRoom (Nat.le_of_ble_eq_true rfl)) (Nat.le_of_ble_eq_true rfl) dX10_wrong_12 (fun r22 μ20 i23 n21 h => ?_)
    have h := h i23 n21
    exact x_iret h i23 rfl dX10_wrong_15
set_option maxRecDepth 100000 in
set_option maxHeartbeats 4000000 in
theorem xX10_ways (x : xX)  (μ : xM) (Q : Int → xM → Prop)  (h : tX10_ways  μ Q) : xMet x 6 yX10_ways cX10_ways 1 (some .int) [.ref (x.2.2.1 + 0)] μ (xQi x Q) := by
  refine xMet_of (by decide +kernel) (Nat.le_of_ble_eq_true rfl) ?_
  show xW x (xRm 6, RX10, cX10_ways, 1, (some .int), fun _ _ => True) (xQi x Q) 0 [(0, .ref (x.2.2.1 + 0))] [] μ
  refine x_ran (fun n0 => ?_)
  have h := h n0 
  refine x_aload_n 0 rfl dX10_ways_0 ?_
  refine x_getR (j := 2) (r := 39) ly0 (by decide) rfl rfl (by decide) inT10 fl_X10_25 dX10_ways_1 ?_
  refine x_callVz (As := []) (rest := []) cal_X2_isOpen ins_X2_isOpen sel_X2_isOpen ly39 (by decide) rfl (xX2_isOpen x 39 _ _ isHouse_39 h) rfl ml_X10_186 (xRoom (Nat.le_of_ble_eq_true rfl)) (Nat.le_of_ble_eq_true rfl) dX10_ways_4 (fun r3 μ1 i4 n2 h => ?_)
  have h := h i4 n2
  refine x_ifne (tgt := 16) (xIz i4)  dX10_ways_7 (by decide) (fun k5 => ?_) (fun k5 => ?_)
  · have h := h.1 (xz1 i4 k5)
    refine x_aload_n 0 rfl dX10_ways_16 ?_
    refine x_getR (j := 2) (r := 39) ly0 (by decide) rfl rfl (by decide) inT10 fl_X10_25 dX10_ways_17 ?_
    refine x_getI (j := 6) ly39 (by decide) rfl rfl (by decide) inT2 fl_X10_330 dX10_ways_20 (fun r6 => ?_)
    refine x_iconst dX10_ways_23 ?_
    refine x_icmpge (tgt := 34) r6 ⟨by decide, by decide⟩ dX10_ways_24 (by decide) (fun k7 => ?_) (fun k7 => ?_)
    · have h := h.1 k7
      refine x_aload_n 0 rfl dX10_ways_34 ?_
      refine x_aload_n 0 rfl dX10_ways_35 ?_
      refine x_getR (j := 13) (r := 247) ly0 (by decide) rfl rfl (by decide) inT10 fl_X10_90 dX10_ways_36 ?_
      refine x_iconst dX10_ways_39 ?_
      refine x_callVi (As := [iV (-1)]) (rest := [.ref (x.2.2.1 + 0)]) cal_X6_rowsWith ins_X6_rowsWith sel_X6_rowsWith ly247 (by decide) rfl (xX6_rowsWith x (-1) _ _ ⟨by decide, by decide⟩ h) rfl ml_X10_336 (xRoom (Nat.le_of_ble_eq_true rfl)) (Nat.le_of_ble_eq_true rfl) dX10_ways_40 (fun r10 μ8 i11 n9 h => ?_)
      have h := h i11 n9
      refine x_callVi (As := [iV r10]) (rest := []) cal_X10_granted ins_X10_granted sel_X10_granted ly0 (by decide) rfl (xX10_granted x r10 _ _ i11 h) rfl ml_X10_140 (xRoom (Nat.le_of_ble_eq_true rfl)) (Nat.le_of_ble_eq_true rfl) dX10_ways_43 (fun r14 μ12 i15 n13 h => ?_)
      have h := h i15 n13
      exact x_iret h i15 rfl dX10_ways_46
    · have h := h.2 k7
      refine x_aload_n 0 rfl dX10_ways_27 ?_
      refine x_bipush dX10_ways_28 (by decide) ?_
      refine x_callVi (As := [iV 6]) (rest := []) cal_X10_refused ins_X10_refused sel_X10_refused ly0 (by decide) rfl (xX10_refused x 6 _ _ ⟨by decide, by decide⟩ h) rfl ml_X10_116 (xRoom (Nat.le_of_ble_eq_true rfl)) (Nat.le_of_ble_eq_true rfl) dX10_ways_30 (fun r18 μ16 i19 n17 h => ?_)
      have h := h i19 n17
      exact x_iret h i19 rfl dX10_ways_33
  · have h := h.2 k5
    refine x_aload_n 0 rfl dX10_ways_10 ?_
    refine x_iconst dX10_ways_11 ?_
    refine x_callVi (As := [iV 1]) (rest := []) cal_X10_refused ins_X10_refused sel_X10_refused ly0 (by decide) rfl (xX10_refused x 1 _ _ ⟨by decide, by decide⟩ h) rfl ml_X10_116 (xRoom (Nat.le_of_ble_eq_true rfl)) (Nat.le_of_ble_eq_true rfl) dX10_ways_12 (fun r22 μ20 i23 n21 h => ?_)
    have h := h i23 n21
    exact x_iret h i23 rfl dX10_ways_15
set_option maxRecDepth 100000 in
set_option maxHeartbeats 4000000 in
theorem xX10_waysOf (x : xX) (p1 : Int) (μ : xM) (Q : Int → xM → Prop) (hp1 : xIn p1) (h : tX10_waysOf p1 μ Q) : xMet x 6 yX10_waysOf cX10_waysOf 2 (some .int) [.ref (x.2.2.1 + 0), iV p1] μ (xQi x Q) := by
  refine xMet_of (by decide +kernel) (Nat.le_of_ble_eq_true rfl) ?_
  show xW x (xRm 6, RX10, cX10_waysOf, 2, (some .int), fun _ _ => True) (xQi x Q) 0 [(0, .ref (x.2.2.1 + 0)), (1, iV p1)] [] μ
  refine x_ran (fun n0 => ?_)
  have h := h n0 hp1
  refine x_aload_n 0 rfl dX10_waysOf_0 ?_
  refine x_getR (j := 2) (r := 39) ly0 (by decide) rfl rfl (by decide) inT10 fl_X10_25 dX10_waysOf_1 ?_
  refine x_iload_n 1 rfl dX10_waysOf_4 ?_
  refine x_callVz (As := [iV p1]) (rest := []) cal_X2_isGuest ins_X2_isGuest sel_X2_isGuest ly39 (by decide) rfl (xX2_isGuest x 39 p1 _ _ isHouse_39 hp1 h) rfl ml_X10_339 (xRoom (Nat.le_of_ble_eq_true rfl)) (Nat.le_of_ble_eq_true rfl) dX10_waysOf_5 (fun r3 μ1 i4 n2 h => ?_)
  have h := h i4 n2
  refine x_ifne (tgt := 17) (xIz i4)  dX10_waysOf_8 (by decide) (fun k5 => ?_) (fun k5 => ?_)
  · have h := h.1 (xz1 i4 k5)
    refine x_aload_n 0 rfl dX10_waysOf_17 ?_
    refine x_getR (j := 2) (r := 39) ly0 (by decide) rfl rfl (by decide) inT10 fl_X10_25 dX10_waysOf_18 ?_
    refine x_getI (j := 6) ly39 (by decide) rfl rfl (by decide) inT2 fl_X10_330 dX10_waysOf_21 (fun r6 => ?_)
    refine x_iconst dX10_waysOf_24 ?_
    refine x_icmpge (tgt := 35) r6 ⟨by decide, by decide⟩ dX10_waysOf_25 (by decide) (fun k7 => ?_) (fun k7 => ?_)
    · have h := h.1 k7
      refine x_aload_n 0 rfl dX10_waysOf_35 ?_
      refine x_aload_n 0 rfl dX10_waysOf_36 ?_
      refine x_getR (j := 13) (r := 247) ly0 (by decide) rfl rfl (by decide) inT10 fl_X10_90 dX10_waysOf_37 ?_
      refine x_iload_n 1 rfl dX10_waysOf_40 ?_
      refine x_callVi (As := [iV p1]) (rest := [.ref (x.2.2.1 + 0)]) cal_X6_rowsWith ins_X6_rowsWith sel_X6_rowsWith ly247 (by decide) rfl (xX6_rowsWith x p1 _ _ hp1 h) rfl ml_X10_336 (xRoom (Nat.le_of_ble_eq_true rfl)) (Nat.le_of_ble_eq_true rfl) dX10_waysOf_41 (fun r10 μ8 i11 n9 h => ?_)
      have h := h i11 n9
      refine x_callVi (As := [iV r10]) (rest := []) cal_X10_granted ins_X10_granted sel_X10_granted ly0 (by decide) rfl (xX10_granted x r10 _ _ i11 h) rfl ml_X10_140 (xRoom (Nat.le_of_ble_eq_true rfl)) (Nat.le_of_ble_eq_true rfl) dX10_waysOf_44 (fun r14 μ12 i15 n13 h => ?_)
      have h := h i15 n13
      exact x_iret h i15 rfl dX10_waysOf_47
    · have h := h.2 k7
      refine x_aload_n 0 rfl dX10_waysOf_28 ?_
      refine x_bipush dX10_waysOf_29 (by decide) ?_
      refine x_callVi (As := [iV 6]) (rest := []) cal_X10_refused ins_X10_refused sel_X10_refused ly0 (by decide) rfl (xX10_refused x 6 _ _ ⟨by decide, by decide⟩ h) rfl ml_X10_116 (xRoom (Nat.le_of_ble_eq_true rfl)) (Nat.le_of_ble_eq_true rfl) dX10_waysOf_31 (fun r18 μ16 i19 n17 h => ?_)
      have h := h i19 n17
      exact x_iret h i19 rfl dX10_waysOf_34
  · have h := h.2 k5
    refine x_aload_n 0 rfl dX10_waysOf_11 ?_
    refine x_iconst dX10_waysOf_12 ?_
    refine x_callVi (As := [iV 1]) (rest := []) cal_X10_refused ins_X10_refused sel_X10_refused ly0 (by decide) rfl (xX10_refused x 1 _ _ ⟨by decide, by decide⟩ h) rfl ml_X10_116 (xRoom (Nat.le_of_ble_eq_true rfl)) (Nat.le_of_ble_eq_true rfl) dX10_waysOf_13 (fun r22 μ20 i23 n21 h => ?_)
    have h := h i23 n21
    exact x_iret h i23 rfl dX10_waysOf_16
set_option maxRecDepth 100000 in
set_option maxHeartbeats 4000000 in
theorem xX10_rename (x : xX) (p1 : Int) (p2 : Int) (μ : xM) (Q : Int → xM → Prop) (hp1 : xIn p1) (hp2 : xIn p2) (h : tX10_rename p1 p2 μ Q) : xMet x 4 yX10_rename cX10_rename 3 (some .boolean) [.ref (x.2.2.1 + 0), iV p1, iV p2] μ (xQz x Q) := by
  refine xMet_of (by decide +kernel) (Nat.le_of_ble_eq_true rfl) ?_
  show xW x (xRm 4, RX10, cX10_rename, 3, (some .boolean), fun _ _ => True) (xQz x Q) 0 [(0, .ref (x.2.2.1 + 0)), (1, iV p1), (2, iV p2)] [] μ
  refine x_ran (fun n0 => ?_)
  have h := h n0 hp1 hp2
  refine x_aload_n 0 rfl dX10_rename_0 ?_
  refine x_getR (j := 2) (r := 39) ly0 (by decide) rfl rfl (by decide) inT10 fl_X10_25 dX10_rename_1 ?_
  refine x_iload_n 1 rfl dX10_rename_4 ?_
  refine x_callVz (As := [iV p1]) (rest := []) cal_X2_isGuest ins_X2_isGuest sel_X2_isGuest ly39 (by decide) rfl (xX2_isGuest x 39 p1 _ _ isHouse_39 hp1 h) rfl ml_X10_339 (xRoom (Nat.le_of_ble_eq_true rfl)) (Nat.le_of_ble_eq_true rfl) dX10_rename_5 (fun r3 μ1 i4 n2 h => ?_)
  have h := h i4 n2
  refine x_ifne (tgt := 17) (xIz i4)  dX10_rename_8 (by decide) (fun k5 => ?_) (fun k5 => ?_)
  · have h := h.1 (xz1 i4 k5)
    refine x_iload_n 2 rfl dX10_rename_17 ?_
    refine x_iflt (tgt := 27) hp2  dX10_rename_18 (by decide) (fun k6 => ?_) (fun k6 => ?_)
    · have h := h.1 k6
      refine x_aload_n 0 rfl dX10_rename_27 ?_
      refine x_iconst dX10_rename_28 ?_
      refine x_callVz (As := [iV 2]) (rest := []) cal_X10_denied ins_X10_denied sel_X10_denied ly0 (by decide) rfl (xX10_denied x 2 _ _ ⟨by decide, by decide⟩ h) rfl ml_X10_237 (xRoom (Nat.le_of_ble_eq_true rfl)) (Nat.le_of_ble_eq_true rfl) dX10_rename_29 (fun r9 μ7 i10 n8 h => ?_)
      have h := h i10 n8
      exact x_zret h i10 rfl dX10_rename_32
    · have h := h.2 k6
      refine x_iload_n 2 rfl dX10_rename_21 ?_
      refine x_bipush dX10_rename_22 (by decide) ?_
      refine x_icmplt (tgt := 33) hp2 ⟨by decide, by decide⟩ dX10_rename_24 (by decide) (fun k11 => ?_) (fun k11 => ?_)
      · have h := h.1 k11
        refine x_aload_n 0 rfl dX10_rename_33 ?_
        refine x_getR (j := 2) (r := 39) ly0 (by decide) rfl rfl (by decide) inT10 fl_X10_25 dX10_rename_34 ?_
        refine x_iload_n 1 rfl dX10_rename_37 ?_
        refine x_callVi (As := [iV p1]) (rest := []) cal_X2_firstOf ins_X2_firstOf sel_X2_firstOf ly39 (by decide) rfl (xX2_firstOf x 39 p1 _ _ isHouse_39 hp1 h) rfl ml_X10_253 (xRoom (Nat.le_of_ble_eq_true rfl)) (Nat.le_of_ble_eq_true rfl) dX10_rename_38 (fun r14 μ12 i15 n13 h => ?_)
        have h := h i15 n13
        refine x_iload_n 2 rfl dX10_rename_41 ?_
        refine x_icmpne (tgt := 51) i15 hp2 dX10_rename_42 (by decide) (fun k16 => ?_) (fun k16 => ?_)
        · have h := h.1 k16
          refine x_aload_n 0 rfl dX10_rename_51 ?_
          refine x_getR (j := 2) (r := 39) ly0 (by decide) rfl rfl (by decide) inT10 fl_X10_25 dX10_rename_52 ?_
          refine x_iload_n 1 rfl dX10_rename_55 ?_
          refine x_iload_n 2 rfl dX10_rename_56 ?_
          refine x_callVv (As := [iV p1, iV p2]) (rest := []) cal_X2_setFirst ins_X2_setFirst sel_X2_setFirst ly39 (by decide) rfl (xX2_setFirst x 39 p1 p2 _ _ isHouse_39 hp1 hp2 h) rfl ml_X10_342 (xRoom (Nat.le_of_ble_eq_true rfl)) (Nat.le_of_ble_eq_true rfl) dX10_rename_57 (fun μ17 n18 h => ?_)
          have h := h n18
          refine x_aload_n 0 rfl dX10_rename_60 ?_
          refine x_getR (j := 14) (r := 249) ly0 (by decide) rfl rfl (by decide) inT10 fl_X10_97 dX10_rename_61 ?_
          refine x_aload_n 0 rfl dX10_rename_64 ?_
          refine x_getR (j := 14) (r := 249) ly0 (by decide) rfl rfl (by decide) inT10 fl_X10_97 dX10_rename_65 ?_
          refine x_getI (j := 0) ly249 (by decide) rfl rfl (by decide) inT4 fl_X10_345 dX10_rename_68 (fun r19 => ?_)
          refine x_callVv (As := [iV (μ17 249 0)]) (rest := []) cal_X4_begin ins_X4_begin sel_X4_begin ly249 (by decide) rfl (xX4_begin x 249 (μ17 249 0) _ _ isNight_249 r19 h) rfl ml_X10_130 (xRoom (Nat.le_of_ble_eq_true rfl)) (Nat.le_of_ble_eq_true rfl) dX10_rename_71 (fun μ20 n21 h => ?_)
          have h := h n21
          refine x_aload_n 0 rfl dX10_rename_74 ?_
          refine x_callVv (As := []) (rest := []) cal_X10_renew ins_X10_renew sel_X10_renew ly0 (by decide) rfl (xX10_renew x  _ _  h) rfl ml_X10_134 (xRoom (Nat.le_of_ble_eq_true rfl)) (Nat.le_of_ble_eq_true rfl) dX10_rename_75 (fun μ22 n23 h => ?_)
          have h := h n23
          refine x_aload_n 0 rfl dX10_rename_78 ?_
          refine x_callVz (As := []) (rest := []) cal_X10_allowed ins_X10_allowed sel_X10_allowed ly0 (by decide) rfl (xX10_allowed x  _ _  h) rfl ml_X10_240 (xRoom (Nat.le_of_ble_eq_true rfl)) (Nat.le_of_ble_eq_true rfl) dX10_rename_79 (fun r26 μ24 i27 n25 h => ?_)
          have h := h i27 n25
          exact x_zret h i27 rfl dX10_rename_82
        · have h := h.2 k16
          refine x_aload_n 0 rfl dX10_rename_45 ?_
          refine x_iconst dX10_rename_46 ?_
          refine x_callVz (As := [iV 5]) (rest := []) cal_X10_denied ins_X10_denied sel_X10_denied ly0 (by decide) rfl (xX10_denied x 5 _ _ ⟨by decide, by decide⟩ h) rfl ml_X10_237 (xRoom (Nat.le_of_ble_eq_true rfl)) (Nat.le_of_ble_eq_true rfl) dX10_rename_47 (fun r30 μ28 i31 n29 h => ?_)
          have h := h i31 n29
          exact x_zret h i31 rfl dX10_rename_50
      · have h := h.2 k11
        refine x_aload_n 0 rfl dX10_rename_27 ?_
        refine x_iconst dX10_rename_28 ?_
        refine x_callVz (As := [iV 2]) (rest := []) cal_X10_denied ins_X10_denied sel_X10_denied ly0 (by decide) rfl (xX10_denied x 2 _ _ ⟨by decide, by decide⟩ h) rfl ml_X10_237 (xRoom (Nat.le_of_ble_eq_true rfl)) (Nat.le_of_ble_eq_true rfl) dX10_rename_29 (fun r34 μ32 i35 n33 h => ?_)
        have h := h i35 n33
        exact x_zret h i35 rfl dX10_rename_32
  · have h := h.2 k5
    refine x_aload_n 0 rfl dX10_rename_11 ?_
    refine x_iconst dX10_rename_12 ?_
    refine x_callVz (As := [iV 1]) (rest := []) cal_X10_denied ins_X10_denied sel_X10_denied ly0 (by decide) rfl (xX10_denied x 1 _ _ ⟨by decide, by decide⟩ h) rfl ml_X10_237 (xRoom (Nat.le_of_ble_eq_true rfl)) (Nat.le_of_ble_eq_true rfl) dX10_rename_13 (fun r38 μ36 i39 n37 h => ?_)
    have h := h i39 n37
    exact x_zret h i39 rfl dX10_rename_16
