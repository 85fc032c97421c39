set_option maxRecDepth 100000 in
set_option maxHeartbeats 4000000 in
theorem xX0_forget (x : xX)  (μ : xM) (Q : xM → Prop)  (h : tX0_forget  μ Q) : xMet x 2 yX0_forget cX0_forget 1 none [.ref (x.2.2.1 + 232)] μ (xQv x Q) := by
  refine xMet_of (by decide +kernel) (Nat.le_of_ble_eq_true rfl) ?_
  show xW x (xRm 2, RX0, cX0_forget, 1, none, fun _ _ => True) (xQv x Q) 0 [(0, .ref (x.2.2.1 + 232))] [] μ
  refine x_ran (fun n0 => ?_)
  have h := h n0 
  refine x_aload_n 0 rfl dX0_forget_0 ?_
  refine x_getI (j := 4) ly232 (by decide) rfl rfl (by decide) inT0 fl_X0_26 dX0_forget_1 (fun r1 => ?_)
  refine x_ifeq (tgt := 20) r1  dX0_forget_4 (by decide) (fun k2 => ?_) (fun k2 => ?_)
  · have h := h.1 k2
    refine x_aload_n 0 rfl dX0_forget_20 ?_
    refine x_getI (j := 5) ly232 (by decide) rfl rfl (by decide) inT0 fl_X0_36 dX0_forget_21 (fun r3 => ?_)
    refine x_ifeq (tgt := 40) r3  dX0_forget_24 (by decide) (fun k4 => ?_) (fun k4 => ?_)
    · have h := h.1 k4
      exact x_vret h rfl dX0_forget_40
    · have h := h.2 k4
      refine x_aload_n 0 rfl dX0_forget_27 ?_
      refine x_getR (j := 3) (r := 234) ly232 (by decide) rfl rfl (by decide) inT0 fl_X0_15 dX0_forget_28 ?_
      refine x_iconst dX0_forget_31 ?_
      refine x_callSv (As := [.ref (x.2.2.1 + 234), iV 0]) (rest := []) cal_J7_fill_53178 sta_J7_fill_53178 (xJ7_fill_53178 x 234 11700 0 _ _ ⟨ly234, (by decide), (by decide)⟩ ⟨by decide, by decide⟩ h) rfl ml_X0_30 (xRoom (Nat.le_of_ble_eq_true rfl)) (Nat.le_of_ble_eq_true rfl) dX0_forget_32 (fun μ5 n6 h => ?_)
      have h := h n6
      refine x_aload_n 0 rfl dX0_forget_35 ?_
      refine x_iconst dX0_forget_36 ?_
      refine x_putZ (j := 5) ly232 (by decide) rfl rfl (by decide) inT0 fl_X0_36 tyX0 tyX0_ok nmX0 rfl (Or.inl rfl) (by decide +kernel) dX0_forget_37 (fun μ7 e9 n8 => ?_)
      have h := h μ7 e9 n8
      exact x_vret h rfl dX0_forget_40
  · have h := h.2 k2
    refine x_aload_n 0 rfl dX0_forget_7 ?_
    refine x_getR (j := 2) (r := 233) ly232 (by decide) rfl rfl (by decide) inT0 fl_X0_11 dX0_forget_8 ?_
    refine x_iconst dX0_forget_11 ?_
    refine x_callSv (As := [.ref (x.2.2.1 + 233), iV 0]) (rest := []) cal_J7_fill_53178 sta_J7_fill_53178 (xJ7_fill_53178 x 233 2925 0 _ _ ⟨ly233, (by decide), (by decide)⟩ ⟨by decide, by decide⟩ h) rfl ml_X0_30 (xRoom (Nat.le_of_ble_eq_true rfl)) (Nat.le_of_ble_eq_true rfl) dX0_forget_12 (fun μ10 n11 h => ?_)
    have h := h n11
    refine x_aload_n 0 rfl dX0_forget_15 ?_
    refine x_iconst dX0_forget_16 ?_
    refine x_putZ (j := 4) ly232 (by decide) rfl rfl (by decide) inT0 fl_X0_26 tyX0 tyX0_ok nmX0 rfl (Or.inl rfl) (by decide +kernel) dX0_forget_17 (fun μ12 e14 n13 => ?_)
    have h := h μ12 e14 n13
    refine x_aload_n 0 rfl dX0_forget_20 ?_
    refine x_getI (j := 5) ly232 (by decide) rfl rfl (by decide) inT0 fl_X0_36 dX0_forget_21 (fun r15 => ?_)
    refine x_ifeq (tgt := 40) r15  dX0_forget_24 (by decide) (fun k16 => ?_) (fun k16 => ?_)
    · have h := h.1 k16
      exact x_vret h rfl dX0_forget_40
    · have h := h.2 k16
      refine x_aload_n 0 rfl dX0_forget_27 ?_
      refine x_getR (j := 3) (r := 234) ly232 (by decide) rfl rfl (by decide) inT0 fl_X0_15 dX0_forget_28 ?_
      refine x_iconst dX0_forget_31 ?_
      refine x_callSv (As := [.ref (x.2.2.1 + 234), iV 0]) (rest := []) cal_J7_fill_53178 sta_J7_fill_53178 (xJ7_fill_53178 x 234 11700 0 _ _ ⟨ly234, (by decide), (by decide)⟩ ⟨by decide, by decide⟩ h) rfl ml_X0_30 (xRoom (Nat.le_of_ble_eq_true rfl)) (Nat.le_of_ble_eq_true rfl) dX0_forget_32 (fun μ17 n18 h => ?_)
      have h := h n18
      refine x_aload_n 0 rfl dX0_forget_35 ?_
      refine x_iconst dX0_forget_36 ?_
      refine x_putZ (j := 5) ly232 (by decide) rfl rfl (by decide) inT0 fl_X0_36 tyX0 tyX0_ok nmX0 rfl (Or.inl rfl) (by decide +kernel) dX0_forget_37 (fun μ19 e21 n20 => ?_)
      have h := h μ19 e21 n20
      exact x_vret h rfl dX0_forget_40
set_option maxRecDepth 100000 in
set_option maxHeartbeats 4000000 in
theorem xX0_slotOf (x : xX) (p1 : Int) (p2 : Int) (p3 : Int) (μ : xM) (Q : Int → xM → Prop) (hp1 : xIn p1) (hp2 : xIn p2) (hp3 : xIn p3) (h : tX0_slotOf p1 p2 p3 μ Q) : xMet x 1 yX0_slotOf cX0_slotOf 4 (some .int) [iV p1, iV p2, iV p3] μ (xQi x Q) := by
  refine xMet_of (by decide +kernel) (Nat.le_of_ble_eq_true rfl) ?_
  show xW x (xRm 1, RX0, cX0_slotOf, 4, (some .int), fun _ _ => True) (xQi x Q) 0 [(0, iV p1), (1, iV p2), (2, iV p3)] [] μ
  refine x_ran (fun n0 => ?_)
  have h := h n0 hp1 hp2 hp3
  refine x_iload_n 2 rfl dX0_slotOf_0 ?_
  refine x_iload_n 2 rfl dX0_slotOf_1 ?_
  refine x_iconst dX0_slotOf_2 ?_
  refine x_iadd dX0_slotOf_3 ?_
  refine x_imul dX0_slotOf_4 ?_
  refine x_iload_n 2 rfl dX0_slotOf_5 ?_
  refine x_iconst dX0_slotOf_6 ?_
  refine x_iadd dX0_slotOf_7 ?_
  refine x_imul dX0_slotOf_8 ?_
  refine x_bipush dX0_slotOf_9 (by decide) ?_
  obtain ⟨c1, h⟩ := h
  refine x_idiv c1 ⟨by decide, by decide⟩ (by decide) dX0_slotOf_11 ?_
  refine x_iload_n 1 rfl dX0_slotOf_12 ?_
  refine x_iload_n 1 rfl dX0_slotOf_13 ?_
  refine x_iconst dX0_slotOf_14 ?_
  refine x_iadd dX0_slotOf_15 ?_
  refine x_imul dX0_slotOf_16 ?_
  refine x_iconst dX0_slotOf_17 ?_
  obtain ⟨c2, h⟩ := h
  refine x_idiv c2 ⟨by decide, by decide⟩ (by decide) dX0_slotOf_18 ?_
  refine x_iadd dX0_slotOf_19 ?_
  refine x_iload_n 0 rfl dX0_slotOf_20 ?_
  refine x_iadd dX0_slotOf_21 ?_
  refine x_istore_n [(3, iV (((((p3 * (p3 + 1)) * (p3 + 2)).tdiv 6) + ((p2 * (p2 + 1)).tdiv 2)) + p1)), (0, iV p1), (1, iV p2), (2, iV p3)] dX0_slotOf_22 (show 3 < 4 by decide) rfl ?_
  refine x_iload_n 0 rfl dX0_slotOf_23 ?_
  obtain ⟨c3, h⟩ := h
  refine x_iflt (tgt := 34) c3  dX0_slotOf_24 (by decide) (fun k4 => ?_) (fun k4 => ?_)
  · have h := h.1 k4
    refine x_iconst dX0_slotOf_34 ?_
    refine x_goto (tgt := 39) dX0_slotOf_35 (by decide) ?_
    exact x_iret h ⟨by decide, by decide⟩ rfl dX0_slotOf_39
  · have h := h.2 k4
    refine x_iload_n 0 rfl dX0_slotOf_27 ?_
    refine x_sipush dX0_slotOf_28 (by decide) ?_
    refine x_icmplt (tgt := 38) c3 ⟨by decide, by decide⟩ dX0_slotOf_31 (by decide) (fun k5 => ?_) (fun k5 => ?_)
    · have h := h.1 k5
      refine x_iload_n 0 rfl dX0_slotOf_38 ?_
      exact x_iret h c3 rfl dX0_slotOf_39
    · have h := h.2 k5
      refine x_iconst dX0_slotOf_34 ?_
      refine x_goto (tgt := 39) dX0_slotOf_35 (by decide) ?_
      exact x_iret h ⟨by decide, by decide⟩ rfl dX0_slotOf_39
set_option maxRecDepth 100000 in
set_option maxHeartbeats 4000000 in
theorem xX2_isGuest (x : xX) (o : Nat) (p1 : Int) (μ : xM) (Q : Int → xM → Prop) (ho : isHouse o) (hp1 : xIn p1) (h : tX2_isGuest o p1 μ Q) : xMet x 1 yX2_isGuest cX2_isGuest 2 (some .boolean) [.ref (x.2.2.1 + o), iV p1] μ (xQz x Q) := by
  refine xMet_of (by decide +kernel) (Nat.le_of_ble_eq_true rfl) ?_
  show xW x (xRm 1, RX2, cX2_isGuest, 2, (some .boolean), fun _ _ => True) (xQz x Q) 0 [(0, .ref (x.2.2.1 + o)), (1, iV p1)] [] μ
  refine x_ran (fun n0 => ?_)
  have h := h n0 hp1
  refine x_iload_n 1 rfl dX2_isGuest_0 ?_
  refine x_iflt (tgt := 22) hp1  dX2_isGuest_1 (by decide) (fun k1 => ?_) (fun k1 => ?_)
  · have h := h.1 k1
    refine x_iconst dX2_isGuest_22 ?_
    exact x_zret h (Or.inl rfl) rfl dX2_isGuest_23
  · have h := h.2 k1
    refine x_iload_n 1 rfl dX2_isGuest_4 ?_
    refine x_aload_n 0 rfl dX2_isGuest_5 ?_
    refine x_getI (j := 4) ho.1 (by have := ho.2.1; omega) rfl rfl (by decide) inT2 fl_X2_58 dX2_isGuest_6 (fun r2 => ?_)
    refine x_icmpge (tgt := 22) hp1 r2 dX2_isGuest_9 (by decide) (fun k3 => ?_) (fun k3 => ?_)
    · have h := h.1 k3
      refine x_iconst dX2_isGuest_22 ?_
      exact x_zret h (Or.inl rfl) rfl dX2_isGuest_23
    · have h := h.2 k3
      refine x_iload_n 1 rfl dX2_isGuest_12 ?_
      refine x_bipush dX2_isGuest_13 (by decide) ?_
      refine x_icmpge (tgt := 22) hp1 ⟨by decide, by decide⟩ dX2_isGuest_15 (by decide) (fun k4 => ?_) (fun k4 => ?_)
      · have h := h.1 k4
        refine x_iconst dX2_isGuest_22 ?_
        exact x_zret h (Or.inl rfl) rfl dX2_isGuest_23
      · have h := h.2 k4
        refine x_iconst dX2_isGuest_18 ?_
        refine x_goto (tgt := 23) dX2_isGuest_19 (by decide) ?_
        exact x_zret h (Or.inr rfl) rfl dX2_isGuest_23
set_option maxRecDepth 100000 in
set_option maxHeartbeats 4000000 in
theorem xX2_firstOf (x : xX) (o : Nat) (p1 : Int) (μ : xM) (Q : Int → xM → Prop) (ho : isHouse o) (hp1 : xIn p1) (h : tX2_firstOf o p1 μ Q) : xMet x 2 yX2_firstOf cX2_firstOf 2 (some .int) [.ref (x.2.2.1 + o), iV p1] μ (xQi x Q) := by
  refine xMet_of (by decide +kernel) (Nat.le_of_ble_eq_true rfl) ?_
  show xW x (xRm 2, RX2, cX2_firstOf, 2, (some .int), fun _ _ => True) (xQi x Q) 0 [(0, .ref (x.2.2.1 + o)), (1, iV p1)] [] μ
  refine x_ran (fun n0 => ?_)
  have h := h n0 hp1
  refine x_aload_n 0 rfl dX2_firstOf_0 ?_
  refine x_iload_n 1 rfl dX2_firstOf_1 ?_
  refine x_callVz (As := [iV p1]) (rest := []) cal_X2_isGuest ins_X2_isGuest sel_X2_isGuest ho.1 (by have := ho.2.1; omega) rfl (xX2_isGuest x o p1 _ _ ho hp1 h) rfl ml_X2_77 (xRoom (Nat.le_of_ble_eq_true rfl)) (Nat.le_of_ble_eq_true rfl) dX2_firstOf_2 (fun r3 μ1 i4 n2 h => ?_)
  have h := h i4 n2
  refine x_ifeq (tgt := 17) (xIz i4)  dX2_firstOf_5 (by decide) (fun k5 => ?_) (fun k5 => ?_)
  · have h := h.1 k5
    refine x_iconst dX2_firstOf_17 ?_
    exact x_iret h ⟨by decide, by decide⟩ rfl dX2_firstOf_18
  · have h := h.2 (xz1 i4 k5)
    refine x_aload_n 0 rfl dX2_firstOf_8 ?_
    refine x_getR (j := 11) (r := o + 30) ho.1 (by have := ho.2.1; omega) rfl rfl (by decide) inT2 fl_X2_27 dX2_firstOf_9 ?_
    refine x_iload_n 1 rfl dX2_firstOf_12 ?_
    obtain ⟨c6, h⟩ := h
    refine x_iald ho.2.2.2.2.2.2.2.1 c6.1 c6.2 hp1 (by have := ho.2.1; omega) dX2_firstOf_13 (fun r7 => ?_)
    refine x_goto (tgt := 18) dX2_firstOf_14 (by decide) ?_
    exact x_iret h r7 rfl dX2_firstOf_18
set_option maxRecDepth 100000 in
set_option maxHeartbeats 4000000 in
theorem xX1_isKind (x : xX) (p1 : Int) (μ : xM) (Q : Int → xM → Prop) (hp1 : xIn p1) (h : tX1_isKind p1 μ Q) : xMet x 1 yX1_isKind cX1_isKind 2 (some .boolean) [.ref (x.2.2.1 + 73), iV p1] μ (xQz x Q) := by
  refine xMet_of (by decide +kernel) (Nat.le_of_ble_eq_true rfl) ?_
  show xW x (xRm 1, RX1, cX1_isKind, 2, (some .boolean), fun _ _ => True) (xQz x Q) 0 [(0, .ref (x.2.2.1 + 73)), (1, iV p1)] [] μ
  refine x_ran (fun n0 => ?_)
  have h := h n0 hp1
  refine x_iload_n 1 rfl dX1_isKind_0 ?_
  refine x_iflt (tgt := 14) hp1  dX1_isKind_1 (by decide) (fun k1 => ?_) (fun k1 => ?_)
  · have h := h.1 k1
    refine x_iconst dX1_isKind_14 ?_
    exact x_zret h (Or.inl rfl) rfl dX1_isKind_15
  · have h := h.2 k1
    refine x_iload_n 1 rfl dX1_isKind_4 ?_
    refine x_bipush dX1_isKind_5 (by decide) ?_
    refine x_icmpge (tgt := 14) hp1 ⟨by decide, by decide⟩ dX1_isKind_7 (by decide) (fun k2 => ?_) (fun k2 => ?_)
    · have h := h.1 k2
      refine x_iconst dX1_isKind_14 ?_
      exact x_zret h (Or.inl rfl) rfl dX1_isKind_15
    · have h := h.2 k2
      refine x_iconst dX1_isKind_10 ?_
      refine x_goto (tgt := 15) dX1_isKind_11 (by decide) ?_
      exact x_zret h (Or.inr rfl) rfl dX1_isKind_15
set_option maxRecDepth 100000 in
set_option maxHeartbeats 4000000 in
theorem xX1_ups (x : xX) (p1 : Int) (μ : xM) (Q : Int → xM → Prop) (hp1 : xIn p1) (h : tX1_ups p1 μ Q) : xMet x 2 yX1_ups cX1_ups 2 (some .int) [.ref (x.2.2.1 + 73), iV p1] μ (xQi x Q) := by
  refine xMet_of (by decide +kernel) (Nat.le_of_ble_eq_true rfl) ?_
  show xW x (xRm 2, RX1, cX1_ups, 2, (some .int), fun _ _ => True) (xQi x Q) 0 [(0, .ref (x.2.2.1 + 73)), (1, iV p1)] [] μ
  refine x_ran (fun n0 => ?_)
  have h := h n0 hp1
  refine x_aload_n 0 rfl dX1_ups_0 ?_
  refine x_iload_n 1 rfl dX1_ups_1 ?_
  refine x_callVz (As := [iV p1]) (rest := []) cal_X1_isKind ins_X1_isKind sel_X1_isKind ly73 (by decide) rfl (xX1_isKind x p1 _ _ hp1 h) rfl ml_X1_113 (xRoom (Nat.le_of_ble_eq_true rfl)) (Nat.le_of_ble_eq_true rfl) dX1_ups_2 (fun r3 μ1 i4 n2 h => ?_)
  have h := h i4 n2
  refine x_ifeq (tgt := 17) (xIz i4)  dX1_ups_5 (by decide) (fun k5 => ?_) (fun k5 => ?_)
  · have h := h.1 k5
    refine x_iconst dX1_ups_17 ?_
    exact x_iret h ⟨by decide, by decide⟩ rfl dX1_ups_18
  · have h := h.2 (xz1 i4 k5)
    refine x_aload_n 0 rfl dX1_ups_8 ?_
    refine x_getR (j := 5) (r := 178) ly73 (by decide) rfl rfl (by decide) inT1 fl_X1_25 dX1_ups_9 ?_
    refine x_iload_n 1 rfl dX1_ups_12 ?_
    obtain ⟨c6, h⟩ := h
    refine x_iald ly178 c6.1 c6.2 hp1 (by decide) dX1_ups_13 (fun r7 => ?_)
    refine x_goto (tgt := 18) dX1_ups_14 (by decide) ?_
    exact x_iret h r7 rfl dX1_ups_18
set_option maxRecDepth 100000 in
set_option maxHeartbeats 4000000 in
theorem xX1_isSpot (x : xX) (p1 : Int) (μ : xM) (Q : Int → xM → Prop) (hp1 : xIn p1) (h : tX1_isSpot p1 μ Q) : xMet x 1 yX1_isSpot cX1_isSpot 2 (some .boolean) [.ref (x.2.2.1 + 73), iV p1] μ (xQz x Q) := by
  refine xMet_of (by decide +kernel) (Nat.le_of_ble_eq_true rfl) ?_
  show xW x (xRm 1, RX1, cX1_isSpot, 2, (some .boolean), fun _ _ => True) (xQz x Q) 0 [(0, .ref (x.2.2.1 + 73)), (1, iV p1)] [] μ
  refine x_ran (fun n0 => ?_)
  have h := h n0 hp1
  refine x_iload_n 1 rfl dX1_isSpot_0 ?_
  refine x_iflt (tgt := 14) hp1  dX1_isSpot_1 (by decide) (fun k1 => ?_) (fun k1 => ?_)
  · have h := h.1 k1
    refine x_iconst dX1_isSpot_14 ?_
    exact x_zret h (Or.inl rfl) rfl dX1_isSpot_15
  · have h := h.2 k1
    refine x_iload_n 1 rfl dX1_isSpot_4 ?_
    refine x_bipush dX1_isSpot_5 (by decide) ?_
    refine x_icmpge (tgt := 14) hp1 ⟨by decide, by decide⟩ dX1_isSpot_7 (by decide) (fun k2 => ?_) (fun k2 => ?_)
    · have h := h.1 k2
      refine x_iconst dX1_isSpot_14 ?_
      exact x_zret h (Or.inl rfl) rfl dX1_isSpot_15
    · have h := h.2 k2
      refine x_iconst dX1_isSpot_10 ?_
      refine x_goto (tgt := 15) dX1_isSpot_11 (by decide) ?_
      exact x_zret h (Or.inr rfl) rfl dX1_isSpot_15
set_option maxRecDepth 100000 in
set_option maxHeartbeats 4000000 in
theorem xX1_byOf (x : xX) (p1 : Int) (p2 : Int) (μ : xM) (Q : Int → xM → Prop) (hp1 : xIn p1) (hp2 : xIn p2) (h : tX1_byOf p1 p2 μ Q) : xMet x 2 yX1_byOf cX1_byOf 3 (some .int) [.ref (x.2.2.1 + 73), iV p1, iV p2] μ (xQi x Q) := by
  refine xMet_of (by decide +kernel) (Nat.le_of_ble_eq_true rfl) ?_
  show xW x (xRm 2, RX1, cX1_byOf, 3, (some .int), fun _ _ => True) (xQi x Q) 0 [(0, .ref (x.2.2.1 + 73)), (1, iV p1), (2, iV p2)] [] μ
  refine x_ran (fun n0 => ?_)
  have h := h n0 hp1 hp2
  refine x_aload_n 0 rfl dX1_byOf_0 ?_
  refine x_iload_n 1 rfl dX1_byOf_1 ?_
  refine x_callVz (As := [iV p1]) (rest := []) cal_X1_isKind ins_X1_isKind sel_X1_isKind ly73 (by decide) rfl (xX1_isKind x p1 _ _ hp1 h) rfl ml_X1_113 (xRoom (Nat.le_of_ble_eq_true rfl)) (Nat.le_of_ble_eq_true rfl) dX1_byOf_2 (fun r3 μ1 i4 n2 h => ?_)
  have h := h i4 n2
  refine x_ifeq (tgt := 27) (xIz i4)  dX1_byOf_5 (by decide) (fun k5 => ?_) (fun k5 => ?_)
  · have h := h.1 k5
    refine x_iconst dX1_byOf_27 ?_
    exact x_iret h ⟨by decide, by decide⟩ rfl dX1_byOf_28
  · have h := h.2 (xz1 i4 k5)
    refine x_aload_n 0 rfl dX1_byOf_8 ?_
    refine x_iload_n 2 rfl dX1_byOf_9 ?_
    refine x_callVz (As := [iV p2]) (rest := []) cal_X1_isSpot ins_X1_isSpot sel_X1_isSpot ly73 (by decide) rfl (xX1_isSpot x p2 _ _ hp2 h) rfl ml_X1_116 (xRoom (Nat.le_of_ble_eq_true rfl)) (Nat.le_of_ble_eq_true rfl) dX1_byOf_10 (fun r8 μ6 i9 n7 h => ?_)
    have h := h i9 n7
    refine x_ifeq (tgt := 27) (xIz i9)  dX1_byOf_13 (by decide) (fun k10 => ?_) (fun k10 => ?_)
    · have h := h.1 k10
      refine x_iconst dX1_byOf_27 ?_
      exact x_iret h ⟨by decide, by decide⟩ rfl dX1_byOf_28
    · have h := h.2 (xz1 i9 k10)
      refine x_aload_n 0 rfl dX1_byOf_16 ?_
      refine x_getR (j := 4) (r := 152) ly73 (by decide) rfl rfl (by decide) inT1 fl_X1_22 dX1_byOf_17 ?_
      refine x_iload_n 1 rfl dX1_byOf_20 ?_
      obtain ⟨c11, h⟩ := h
      refine x_aaldI ly152 c11.1 c11.2 hp1 (by decide) dX1_byOf_21 ?_
      refine x_iload_n 2 rfl dX1_byOf_22 ?_
      obtain ⟨c12, h⟩ := h
      refine x_iald (lr152 p1.toNat (by omega)) c12.1 c12.2 hp2 (by omega) dX1_byOf_23 (fun r13 => ?_)
      refine x_goto (tgt := 28) dX1_byOf_24 (by decide) ?_
      exact x_iret h r13 rfl dX1_byOf_28
set_option maxRecDepth 100000 in
set_option maxHeartbeats 4000000 in
theorem xX1_upOf (x : xX) (p1 : Int) (p2 : Int) (μ : xM) (Q : Int → xM → Prop) (hp1 : xIn p1) (hp2 : xIn p2) (h : tX1_upOf p1 p2 μ Q) : xMet x 2 yX1_upOf cX1_upOf 3 (some .int) [.ref (x.2.2.1 + 73), iV p1, iV p2] μ (xQi x Q) := by
  refine xMet_of (by decide +kernel) (Nat.le_of_ble_eq_true rfl) ?_
  show xW x (xRm 2, RX1, cX1_upOf, 3, (some .int), fun _ _ => True) (xQi x Q) 0 [(0, .ref (x.2.2.1 + 73)), (1, iV p1), (2, iV p2)] [] μ
  refine x_ran (fun n0 => ?_)
  have h := h n0 hp1 hp2
  refine x_aload_n 0 rfl dX1_upOf_0 ?_
  refine x_iload_n 1 rfl dX1_upOf_1 ?_
  refine x_callVz (As := [iV p1]) (rest := []) cal_X1_isKind ins_X1_isKind sel_X1_isKind ly73 (by decide) rfl (xX1_isKind x p1 _ _ hp1 h) rfl ml_X1_113 (xRoom (Nat.le_of_ble_eq_true rfl)) (Nat.le_of_ble_eq_true rfl) dX1_upOf_2 (fun r3 μ1 i4 n2 h => ?_)
  have h := h i4 n2
  refine x_ifeq (tgt := 27) (xIz i4)  dX1_upOf_5 (by decide) (fun k5 => ?_) (fun k5 => ?_)
  · have h := h.1 k5
    refine x_iconst dX1_upOf_27 ?_
    exact x_iret h ⟨by decide, by decide⟩ rfl dX1_upOf_28
  · have h := h.2 (xz1 i4 k5)
    refine x_aload_n 0 rfl dX1_upOf_8 ?_
    refine x_iload_n 2 rfl dX1_upOf_9 ?_
    refine x_callVz (As := [iV p2]) (rest := []) cal_X1_isSpot ins_X1_isSpot sel_X1_isSpot ly73 (by decide) rfl (xX1_isSpot x p2 _ _ hp2 h) rfl ml_X1_116 (xRoom (Nat.le_of_ble_eq_true rfl)) (Nat.le_of_ble_eq_true rfl) dX1_upOf_10 (fun r8 μ6 i9 n7 h => ?_)
    have h := h i9 n7
    refine x_ifeq (tgt := 27) (xIz i9)  dX1_upOf_13 (by decide) (fun k10 => ?_) (fun k10 => ?_)
    · have h := h.1 k10
      refine x_iconst dX1_upOf_27 ?_
      exact x_iret h ⟨by decide, by decide⟩ rfl dX1_upOf_28
    · have h := h.2 (xz1 i9 k10)
      refine x_aload_n 0 rfl dX1_upOf_16 ?_
      refine x_getR (j := 3) (r := 126) ly73 (by decide) rfl rfl (by decide) inT1 fl_X1_19 dX1_upOf_17 ?_
      refine x_iload_n 1 rfl dX1_upOf_20 ?_
      obtain ⟨c11, h⟩ := h
      refine x_aaldI ly126 c11.1 c11.2 hp1 (by decide) dX1_upOf_21 ?_
      refine x_iload_n 2 rfl dX1_upOf_22 ?_
      obtain ⟨c12, h⟩ := h
      refine x_iald (lr126 p1.toNat (by omega)) c12.1 c12.2 hp2 (by omega) dX1_upOf_23 (fun r13 => ?_)
      refine x_goto (tgt := 28) dX1_upOf_24 (by decide) ?_
      exact x_iret h r13 rfl dX1_upOf_28
set_option maxRecDepth 100000 in
set_option maxHeartbeats 4000000 in
theorem xX0_mostSeated (x : xX) (F : Int → Int → Int → Int → xM → (Int → xM → Prop) → Prop) (p1 : Int) (p2 : Int) (p3 : Int) (p4 : Int) (μ : xM) (Q : Int → xM → Prop) (hp1 : xIn p1) (hp2 : xIn p2) (hp3 : xIn p3) (hp4 : xIn p4) (dF : Nat) (hF : ∀ (q0 q1 q2 q3 : Int) (μ : xM) (Q : Int → xM → Prop), xIn q0 → xIn q1 → xIn q2 → xIn q3 → F q0 q1 q2 q3 μ Q → xMet x dF yX0_mostFrom cX0_mostFrom 12 (some .int) [.ref (x.2.2.1 + 232), iV q0, iV q1, iV q2, iV q3] μ (xQi x Q)) (dM : Nat) (hdM : 5 ≤ dM) (hdF : dF + 1 ≤ dM) (h : tX0_mostSeated F p1 p2 p3 p4 μ Q) : xMet x dM yX0_mostSeated cX0_mostSeated 8 (some .int) [.ref (x.2.2.1 + 232), iV p1, iV p2, iV p3, iV p4] μ (xQi x Q) := by
  refine xMet_of (by decide +kernel) (Nat.le_of_ble_eq_true rfl) ?_
  show xW x (xRm dM, RX0, cX0_mostSeated, 8, (some .int), fun _ _ => True) (xQi x Q) 0 [(0, .ref (x.2.2.1 + 232)), (1, iV p1), (2, iV p2), (3, iV p3), (4, iV p4)] [] μ
  refine x_ran (fun n0 => ?_)
  have h := h n0 hp1 hp2 hp3 hp4
  refine x_aload_n 0 rfl dX0_mostSeated_0 ?_
  refine x_getR (j := 0) (r := 39) ly232 (by decide) rfl rfl (by decide) inT0 fl_X0_18 dX0_mostSeated_1 ?_
  refine x_iload_n 1 rfl dX0_mostSeated_4 ?_
  refine x_callVi (As := [iV p1]) (rest := []) cal_X2_firstOf ins_X2_firstOf sel_X2_firstOf ly39 (by decide) rfl (xX2_firstOf x 39 p1 _ _ isHouse_39 hp1 h) rfl ml_X0_80 (xRoom (show 2 + 1 ≤ dM by omega)) (Nat.le_of_ble_eq_true rfl) dX0_mostSeated_5 (fun r3 μ1 i4 n2 h => ?_)
  have h := h i4 n2
  refine x_istore [(5, iV r3), (0, .ref (x.2.2.1 + 232)), (1, iV p1), (2, iV p2), (3, iV p3), (4, iV p4)] dX0_mostSeated_8 (show 5 < 8 by decide) rfl ?_
  refine x_iconst dX0_mostSeated_10 ?_
  refine x_istore [(6, iV 0), (5, iV r3), (0, .ref (x.2.2.1 + 232)), (1, iV p1), (2, iV p2), (3, iV p3), (4, iV p4)] dX0_mostSeated_11 (show 6 < 8 by decide) rfl ?_
  refine x_iconst dX0_mostSeated_13 ?_
  refine x_istore [(7, iV 0), (6, iV 0), (5, iV r3), (0, .ref (x.2.2.1 + 232)), (1, iV p1), (2, iV p2), (3, iV p3), (4, iV p4)] dX0_mostSeated_14 (show 7 < 8 by decide) rfl ?_
  refine x_sub [3, 4, 5, 6, 7, 2, 1, 0] rfl ?_
  refine x_loop2 (fun l6_5 l7_6 => [(0, .ref (x.2.2.1 + 232)), (1, iV p1), (2, iV p2), (3, iV p3), (4, iV p4), (5, iV r3), (6, iV l6_5), (7, iV l7_6)]) h (fun J16 l6_5 l7_6 μ7 hJ16 h n8 => ?_)
  refine x_iload 7 rfl dX0_mostSeated_16 ?_
  refine x_aload_n 0 rfl dX0_mostSeated_18 ?_
  refine x_getR (j := 1) (r := 73) ly232 (by decide) rfl rfl (by decide) inT0 fl_X0_22 dX0_mostSeated_19 ?_
  refine x_iload_n 2 rfl dX0_mostSeated_22 ?_
  refine x_callVi (As := [iV p2]) (rest := [iV l7_6]) cal_X1_ups ins_X1_ups sel_X1_ups ly73 (by decide) rfl (xX1_ups x p2 _ _ hp2 h) rfl ml_X0_83 (xRoom (show 2 + 1 ≤ dM by omega)) (Nat.le_of_ble_eq_true rfl) dX0_mostSeated_23 (fun r11 μ9 i12 n10 h => ?_)
  have h := h i12 n10
  obtain ⟨c13, h⟩ := h
  refine x_icmpge (tgt := 79) c13 i12 dX0_mostSeated_26 (by decide) (fun k14 => ?_) (fun k14 => ?_)
  · have h := h.1 k14
    refine x_iload 6 rfl dX0_mostSeated_79 ?_
    obtain ⟨c15, h⟩ := h
    exact x_iret h c15 rfl dX0_mostSeated_81
  · have h := h.2 k14
    refine x_aload_n 0 rfl dX0_mostSeated_29 ?_
    refine x_getR (j := 1) (r := 73) ly232 (by decide) rfl rfl (by decide) inT0 fl_X0_22 dX0_mostSeated_30 ?_
    refine x_iload_n 2 rfl dX0_mostSeated_33 ?_
    refine x_iload 7 rfl dX0_mostSeated_34 ?_
    refine x_callVi (As := [iV p2, iV l7_6]) (rest := []) cal_X1_byOf ins_X1_byOf sel_X1_byOf ly73 (by decide) rfl (xX1_byOf x p2 l7_6 _ _ hp2 c13 h) rfl ml_X0_88 (xRoom (show 2 + 1 ≤ dM by omega)) (Nat.le_of_ble_eq_true rfl) dX0_mostSeated_36 (fun r18 μ16 i19 n17 h => ?_)
    have h := h i19 n17
    refine x_iload 5 rfl dX0_mostSeated_39 ?_
    refine x_icmpne (tgt := 73) i19 i4 dX0_mostSeated_41 (by decide) (fun k20 => ?_) (fun k20 => ?_)
    · have h := h.1 k20
      refine x_iinc 7 rfl [(7, iV (l7_6 + 1)), (0, .ref (x.2.2.1 + 232)), (1, iV p1), (2, iV p2), (3, iV p3), (4, iV p4), (5, iV r3), (6, iV l6_5)] dX0_mostSeated_73 (show 7 < 8 by decide) rfl ?_
      refine x_goto (tgt := 16) dX0_mostSeated_76 (by decide) ?_
      exact x_sub [1, 2, 3, 4, 5, 6, 7, 0] rfl (hJ16 _ _ _ h)
    · have h := h.2 k20
      refine x_iload 6 rfl dX0_mostSeated_44 ?_
      refine x_iconst dX0_mostSeated_46 ?_
      refine x_aload_n 0 rfl dX0_mostSeated_47 ?_
      refine x_iload_n 1 rfl dX0_mostSeated_48 ?_
      refine x_iconst dX0_mostSeated_49 ?_
      refine x_iadd dX0_mostSeated_50 ?_
      refine x_aload_n 0 rfl dX0_mostSeated_51 ?_
      refine x_getR (j := 1) (r := 73) ly232 (by decide) rfl rfl (by decide) inT0 fl_X0_22 dX0_mostSeated_52 ?_
      refine x_iload_n 2 rfl dX0_mostSeated_55 ?_
      refine x_iload 7 rfl dX0_mostSeated_56 ?_
      refine x_callVi (As := [iV p2, iV l7_6]) (rest := [iV (p1 + 1), .ref (x.2.2.1 + 232), iV 1, iV l6_5]) cal_X1_upOf ins_X1_upOf sel_X1_upOf ly73 (by decide) rfl (xX1_upOf x p2 l7_6 _ _ hp2 c13 h) rfl ml_X0_91 (xRoom (show 2 + 1 ≤ dM by omega)) (Nat.le_of_ble_eq_true rfl) dX0_mostSeated_58 (fun r23 μ21 i24 n22 h => ?_)
      have h := h i24 n22
      refine x_iload_n 3 rfl dX0_mostSeated_61 ?_
      refine x_iload 4 rfl dX0_mostSeated_62 ?_
      obtain ⟨c25, h⟩ := h
      refine x_callVi (As := [iV (p1 + 1), iV r23, iV p3, iV p4]) (rest := [iV 1, iV l6_5]) cal_X0_mostFrom ins_X0_mostFrom sel_X0_mostFrom ly232 (by decide) rfl (hF (p1 + 1) r23 p3 p4 _ _ c25 i24 hp3 hp4 h) rfl ml_X0_39 (xRoom (show dF + 1 ≤ dM by omega)) (Nat.le_of_ble_eq_true rfl) dX0_mostSeated_64 (fun r28 μ26 i29 n27 h => ?_)
      have h := h i29 n27
      refine x_iadd dX0_mostSeated_67 ?_
      obtain ⟨c30, h⟩ := h
      obtain ⟨c31, h⟩ := h
      refine x_max c30 c31 ml_X0_62 (xRoom1 (show 1 ≤ dM by omega)) (Nat.le_of_ble_eq_true rfl) dX0_mostSeated_68 ?_
      refine x_istore [(6, iV (max l6_5 (1 + r28))), (0, .ref (x.2.2.1 + 232)), (1, iV p1), (2, iV p2), (3, iV p3), (4, iV p4), (5, iV r3), (7, iV l7_6)] dX0_mostSeated_71 (show 6 < 8 by decide) rfl ?_
      refine x_iinc 7 rfl [(7, iV (l7_6 + 1)), (6, iV (max l6_5 (1 + r28))), (0, .ref (x.2.2.1 + 232)), (1, iV p1), (2, iV p2), (3, iV p3), (4, iV p4), (5, iV r3)] dX0_mostSeated_73 (show 7 < 8 by decide) rfl ?_
      refine x_goto (tgt := 16) dX0_mostSeated_76 (by decide) ?_
      exact x_sub [2, 3, 4, 5, 6, 7, 1, 0] rfl (hJ16 _ _ _ h)
set_option maxRecDepth 100000 in
set_option maxHeartbeats 4000000 in
theorem xX0_mostFrom_b209 (x : xX) (F : Int → Int → Int → Int → xM → (Int → xM → Prop) → Prop) (p1 : Int) (p2 : Int) (p3 : Int) (p4 : Int) (b8 : Int) (b9 : Int) (b11 : Int) (μ : xM) (Q : Int → xM → Prop)  (hp1 : xIn p1) (hp2 : xIn p2) (hp3 : xIn p3) (hp4 : xIn p4)  (dF : Nat) (hF : ∀ (q0 q1 q2 q3 : Int) (μ : xM) (Q : Int → xM → Prop), xIn q0 → xIn q1 → xIn q2 → xIn q3 → F q0 q1 q2 q3 μ Q → xMet x dF yX0_mostFrom cX0_mostFrom 12 (some .int) [.ref (x.2.2.1 + 232), iV q0, iV q1, iV q2, iV q3] μ (xQi x Q)) (dM : Nat) (hdM : 6 ≤ dM) (hdF : dF + 2 ≤ dM) (h : tX0_mostFrom_b209 F p1 p2 p3 p4 b8 b9 b11 μ Q ) : xW x (xRm dM, RX0, cX0_mostFrom, 12, (some .int), fun _ _ => True) (xQi x Q) 209 [(0, .ref (x.2.2.1 + 232)), (8, iV b8), (9, iV b9), (11, iV b11)] [] μ := by
  refine x_ran (fun n0 => ?_)
  have h := h n0
  refine x_aload_n 0 rfl dX0_mostFrom_209 ?_
  refine x_getR (j := 2) (r := 233) ly232 (by decide) rfl rfl (by decide) inT0 fl_X0_11 dX0_mostFrom_210 ?_
  refine x_iload 1 rfl dX0_mostFrom_213 ?_
  refine x_dup2 rfl rfl dX0_mostFrom_215 ?_
  obtain ⟨c27, h⟩ := h
  refine x_iald ly233 c27.1 c27.2 (xIb (n := 2925) c27 (by decide)) (by decide) dX0_mostFrom_216 (fun r28 => ?_)
  refine x_iload 3 rfl dX0_mostFrom_217 ?_
  refine x_iconst dX0_mostFrom_219 ?_
  refine x_iadd dX0_mostFrom_220 ?_
  refine x_iload 2 rfl dX0_mostFrom_221 ?_
  refine x_ishl dX0_mostFrom_223 ?_
  refine x_ior dX0_mostFrom_224 ?_
  refine x_iast ly233 c27.1 c27.2 (xIb (n := 2925) c27 (by decide)) (xOr_in _ _) (by decide) dX0_mostFrom_225 (fun μ29 e31 n30 => ?_)
  have h := h μ29 e31 n30
  refine x_aload_n 0 rfl dX0_mostFrom_226 ?_
  refine x_iconst dX0_mostFrom_227 ?_
  refine x_putZ (j := 4) ly232 (by decide) rfl rfl (by decide) inT0 fl_X0_26 tyX0 tyX0_ok nmX0 rfl (Or.inr rfl) (by decide +kernel) dX0_mostFrom_228 (fun μ32 e34 n33 => ?_)
  have h := h μ32 e34 n33
  refine x_iload 3 rfl dX0_mostFrom_231 ?_
  obtain ⟨c35, h⟩ := h
  exact x_iret h c35 rfl dX0_mostFrom_233
set_option maxRecDepth 100000 in
set_option maxHeartbeats 4000000 in
theorem xX0_mostFrom_b173 (x : xX) (F : Int → Int → Int → Int → xM → (Int → xM → Prop) → Prop) (p1 : Int) (p2 : Int) (p3 : Int) (p4 : Int) (b5 : Int) (b6 : Int) (b7 : Int) (b8 : Int) (b9 : Int) (b11 : Int) (μ : xM) (Q : Int → xM → Prop)  (hp1 : xIn p1) (hp2 : xIn p2) (hp3 : xIn p3) (hp4 : xIn p4)  (dF : Nat) (hF : ∀ (q0 q1 q2 q3 : Int) (μ : xM) (Q : Int → xM → Prop), xIn q0 → xIn q1 → xIn q2 → xIn q3 → F q0 q1 q2 q3 μ Q → xMet x dF yX0_mostFrom cX0_mostFrom 12 (some .int) [.ref (x.2.2.1 + 232), iV q0, iV q1, iV q2, iV q3] μ (xQi x Q)) (dM : Nat) (hdM : 6 ≤ dM) (hdF : dF + 2 ≤ dM) (h : tX0_mostFrom_b173 F p1 p2 p3 p4 b5 b6 b7 b8 b9 b11 μ Q ) : xW x (xRm dM, RX0, cX0_mostFrom, 12, (some .int), fun _ _ => True) (xQi x Q) 173 [(0, .ref (x.2.2.1 + 232)), (1, iV p1), (5, iV b5), (6, iV b6), (7, iV b7), (8, iV b8), (9, iV b9), (11, iV b11)] [] μ := by
  refine x_ran (fun n0 => ?_)
  have h := h n0
  refine x_aload_n 0 rfl dX0_mostFrom_173 ?_
  refine x_getR (j := 0) (r := 39) ly232 (by decide) rfl rfl (by decide) inT0 fl_X0_18 dX0_mostFrom_174 ?_
  refine x_getI (j := 0) ly39 (by decide) rfl rfl (by decide) inT2 fl_X0_77 dX0_mostFrom_177 (fun r25 => ?_)
  refine x_iconst dX0_mostFrom_180 ?_
  refine x_icmple (tgt := 209) r25 ⟨by decide, by decide⟩ dX0_mostFrom_181 (by decide) (fun k26 => ?_) (fun k26 => ?_)
  · have h := h.1 k26
    exact x_sub [0, 5, 6, 7] rfl (xX0_mostFrom_b209 x F p1 p2 p3 p4 b8 b9 b11 μ Q  hp1 hp2 hp3 hp4 dF hF dM hdM hdF h)
  · have h := h.2 k26
    refine x_iload 3 rfl dX0_mostFrom_184 ?_
    refine x_iload 4 rfl dX0_mostFrom_186 ?_
    obtain ⟨c36, h⟩ := h
    obtain ⟨c37, h⟩ := h
    refine x_icmpeq (tgt := 209) c36 c37 dX0_mostFrom_188 (by decide) (fun k38 => ?_) (fun k38 => ?_)
    · have h := h.1 k38
      exact x_sub [0, 5, 6, 7] rfl (xX0_mostFrom_b209 x F p1 p2 p3 p4 b8 b9 b11 μ Q  hp1 hp2 hp3 hp4 dF hF dM hdM hdF h)
    · have h := h.2 k38
      refine x_iload 7 rfl dX0_mostFrom_191 ?_
      refine x_aload_n 0 rfl dX0_mostFrom_193 ?_
      refine x_iload_n 1 rfl dX0_mostFrom_194 ?_
      refine x_iload 3 rfl dX0_mostFrom_195 ?_
      refine x_iload 2 rfl dX0_mostFrom_197 ?_
      refine x_iload 4 rfl dX0_mostFrom_199 ?_
      obtain ⟨c39, h⟩ := h
      refine x_callVi (As := [iV p1, iV b6, iV b5, iV b7]) (rest := [iV b11]) cal_X0_mostSeated ins_X0_mostSeated sel_X0_mostSeated ly232 (by decide) rfl (xX0_mostSeated x F p1 b6 b5 b7 _ _ hp1 c36 c39 c37 dF hF (dM - 1) (by omega) (by omega) h) rfl ml_X0_74 (xRoom (show dM - 1 + 1 ≤ dM by omega)) (Nat.le_of_ble_eq_true rfl) dX0_mostFrom_201 (fun r42 μ40 i43 n41 h => ?_)
      have h := h i43 n41
      obtain ⟨c44, h⟩ := h
      refine x_max c44 i43 ml_X0_62 (xRoom1 (show 1 ≤ dM by omega)) (Nat.le_of_ble_eq_true rfl) dX0_mostFrom_204 ?_
      refine x_istore [(11, iV (max b11 r42)), (0, .ref (x.2.2.1 + 232)), (1, iV p1), (5, iV b5), (6, iV b6), (7, iV b7), (8, iV b8), (9, iV b9)] dX0_mostFrom_207 (show 11 < 12 by decide) rfl ?_
      exact x_sub [1, 6, 7, 0] rfl (xX0_mostFrom_b209 x F p1 p2 p3 p4 b8 b9 (max b11 r42) μ40 Q  hp1 hp2 hp3 hp4 dF hF dM hdM hdF h)
set_option maxRecDepth 100000 in
set_option maxHeartbeats 4000000 in
theorem xX0_mostFrom_body (x : xX) (F : Int → Int → Int → Int → xM → (Int → xM → Prop) → Prop) (p1 : Int) (p2 : Int) (p3 : Int) (p4 : Int) (μ : xM) (Q : Int → xM → Prop) (hp1 : xIn p1) (hp2 : xIn p2) (hp3 : xIn p3) (hp4 : xIn p4) (dF : Nat) (hF : ∀ (q0 q1 q2 q3 : Int) (μ : xM) (Q : Int → xM → Prop), xIn q0 → xIn q1 → xIn q2 → xIn q3 → F q0 q1 q2 q3 μ Q → xMet x dF yX0_mostFrom cX0_mostFrom 12 (some .int) [.ref (x.2.2.1 + 232), iV q0, iV q1, iV q2, iV q3] μ (xQi x Q)) (dM : Nat) (hdM : 6 ≤ dM) (hdF : dF + 2 ≤ dM) (h : tX0_mostFrom_body F p1 p2 p3 p4 μ Q) : xMet x dM yX0_mostFrom cX0_mostFrom 12 (some .int) [.ref (x.2.2.1 + 232), iV p1, iV p2, iV p3, iV p4] μ (xQi x Q) := by
  refine xMet_of (by decide +kernel) (Nat.le_of_ble_eq_true rfl) ?_
  show xW x (xRm dM, RX0, cX0_mostFrom, 12, (some .int), fun _ _ => True) (xQi x Q) 0 [(0, .ref (x.2.2.1 + 232)), (1, iV p1), (2, iV p2), (3, iV p3), (4, iV p4)] [] μ
  refine x_ran (fun n0 => ?_)
  have h := h n0 hp1 hp2 hp3 hp4
  refine x_iload_n 2 rfl dX0_mostFrom_0 ?_
  refine x_iload_n 3 rfl dX0_mostFrom_1 ?_
  refine x_iload 4 rfl dX0_mostFrom_2 ?_
  refine x_min hp3 hp4 ml_X0_56 (xRoom1 (show 1 ≤ dM by omega)) (Nat.le_of_ble_eq_true rfl) dX0_mostFrom_4 ?_
  refine x_min hp2 (xmin_in hp3 hp4) ml_X0_56 (xRoom1 (show 1 ≤ dM by omega)) (Nat.le_of_ble_eq_true rfl) dX0_mostFrom_7 ?_
  refine x_istore [(5, iV (min p2 (min p3 p4))), (0, .ref (x.2.2.1 + 232)), (1, iV p1), (2, iV p2), (3, iV p3), (4, iV p4)] dX0_mostFrom_10 (show 5 < 12 by decide) rfl ?_
  refine x_iload_n 3 rfl dX0_mostFrom_12 ?_
  refine x_iload_n 4 rfl dX0_mostFrom_13 ?_
  refine x_iload 5 rfl dX0_mostFrom_14 ?_
  refine x_max hp3 hp4 ml_X0_62 (xRoom1 (show 1 ≤ dM by omega)) (Nat.le_of_ble_eq_true rfl) dX0_mostFrom_16 ?_
  refine x_max hp2 (xmax_in hp3 hp4) ml_X0_62 (xRoom1 (show 1 ≤ dM by omega)) (Nat.le_of_ble_eq_true rfl) dX0_mostFrom_19 ?_
  refine x_istore [(6, iV (max p2 (max p3 p4))), (5, iV (min p2 (min p3 p4))), (0, .ref (x.2.2.1 + 232)), (1, iV p1), (2, iV p2), (3, iV p3), (4, iV p4)] dX0_mostFrom_22 (show 6 < 12 by decide) rfl ?_
  refine x_iload_n 4 rfl dX0_mostFrom_24 ?_
  refine x_iload_n 5 rfl dX0_mostFrom_25 ?_
  refine x_iadd dX0_mostFrom_26 ?_
  refine x_iload 6 rfl dX0_mostFrom_27 ?_
  refine x_iadd dX0_mostFrom_29 ?_
  refine x_iload 1 rfl dX0_mostFrom_30 ?_
  refine x_isub dX0_mostFrom_32 ?_
  refine x_iload 0 rfl dX0_mostFrom_33 ?_
  refine x_isub dX0_mostFrom_35 ?_
  refine x_istore [(7, iV ((((p2 + p3) + p4) - (min p2 (min p3 p4))) - (max p2 (max p3 p4)))), (6, iV (max p2 (max p3 p4))), (5, iV (min p2 (min p3 p4))), (0, .ref (x.2.2.1 + 232)), (1, iV p1), (2, iV p2), (3, iV p3), (4, iV p4)] dX0_mostFrom_36 (show 7 < 12 by decide) rfl ?_
  refine x_iload_n 4 rfl dX0_mostFrom_38 ?_
  refine x_iflt (tgt := 65) hp1  dX0_mostFrom_39 (by decide) (fun k1 => ?_) (fun k1 => ?_)
  · have h := h.1 k1
    refine x_iconst dX0_mostFrom_65 ?_
    exact x_iret h ⟨by decide, by decide⟩ rfl dX0_mostFrom_66
  · have h := h.2 k1
    refine x_iload_n 4 rfl dX0_mostFrom_42 ?_
    refine x_aload_n 3 rfl dX0_mostFrom_43 ?_
    refine x_getR (j := 0) (r := 39) ly232 (by decide) rfl rfl (by decide) inT0 fl_X0_18 dX0_mostFrom_44 ?_
    refine x_getI (j := 4) ly39 (by decide) rfl rfl (by decide) inT2 fl_X0_65 dX0_mostFrom_47 (fun r2 => ?_)
    refine x_icmpge (tgt := 65) hp1 r2 dX0_mostFrom_50 (by decide) (fun k3 => ?_) (fun k3 => ?_)
    · have h := h.1 k3
      refine x_iconst dX0_mostFrom_65 ?_
      exact x_iret h ⟨by decide, by decide⟩ rfl dX0_mostFrom_66
    · have h := h.2 k3
      refine x_iload 2 rfl dX0_mostFrom_53 ?_
      refine x_iflt (tgt := 65) (xmin_in hp2 (xmin_in hp3 hp4))  dX0_mostFrom_55 (by decide) (fun k4 => ?_) (fun k4 => ?_)
      · have h := h.1 k4
        refine x_iconst dX0_mostFrom_65 ?_
        exact x_iret h ⟨by decide, by decide⟩ rfl dX0_mostFrom_66
      · have h := h.2 k4
        refine x_iload 1 rfl dX0_mostFrom_58 ?_
        refine x_bipush dX0_mostFrom_60 (by decide) ?_
        refine x_icmplt (tgt := 67) (xmax_in hp2 (xmax_in hp3 hp4)) ⟨by decide, by decide⟩ dX0_mostFrom_62 (by decide) (fun k5 => ?_) (fun k5 => ?_)
        · have h := h.1 k5
          refine x_iload 2 rfl dX0_mostFrom_67 ?_
          refine x_iload 0 rfl dX0_mostFrom_69 ?_
          refine x_iload 1 rfl dX0_mostFrom_71 ?_
          obtain ⟨c6, h⟩ := h
          refine x_callSi (As := [iV (min p2 (min p3 p4)), iV ((((p2 + p3) + p4) - (min p2 (min p3 p4))) - (max p2 (max p3 p4))), iV (max p2 (max p3 p4))]) (rest := []) cal_X0_slotOf sta_X0_slotOf (xX0_slotOf x (min p2 (min p3 p4)) ((((p2 + p3) + p4) - (min p2 (min p3 p4))) - (max p2 (max p3 p4))) (max p2 (max p3 p4)) _ _ (xmin_in hp2 (xmin_in hp3 hp4)) c6 (xmax_in hp2 (xmax_in hp3 hp4)) h) rfl ml_X0_70 (xRoom (show 1 + 1 ≤ dM by omega)) (Nat.le_of_ble_eq_true rfl) dX0_mostFrom_73 (fun r9 μ7 i10 n8 h => ?_)
          have h := h i10 n8
          refine x_istore [(8, iV r9), (7, iV ((((p2 + p3) + p4) - (min p2 (min p3 p4))) - (max p2 (max p3 p4)))), (6, iV (max p2 (max p3 p4))), (5, iV (min p2 (min p3 p4))), (0, .ref (x.2.2.1 + 232)), (1, iV p1), (2, iV p2), (3, iV p3), (4, iV p4)] dX0_mostFrom_76 (show 8 < 12 by decide) rfl ?_
          refine x_iconst dX0_mostFrom_78 ?_
          refine x_iload_n 5 rfl dX0_mostFrom_79 ?_
          refine x_imul dX0_mostFrom_80 ?_
          refine x_istore [(9, iV (4 * p1)), (8, iV r9), (7, iV ((((p2 + p3) + p4) - (min p2 (min p3 p4))) - (max p2 (max p3 p4)))), (6, iV (max p2 (max p3 p4))), (5, iV (min p2 (min p3 p4))), (0, .ref (x.2.2.1 + 232)), (1, iV p1), (2, iV p2), (3, iV p3), (4, iV p4)] dX0_mostFrom_81 (show 9 < 12 by decide) rfl ?_
          refine x_aload_n 5 rfl dX0_mostFrom_83 ?_
          refine x_getR (j := 2) (r := 233) ly232 (by decide) rfl rfl (by decide) inT0 fl_X0_11 dX0_mostFrom_84 ?_
          refine x_iload 1 rfl dX0_mostFrom_87 ?_
          obtain ⟨c11, h⟩ := h
          refine x_iald ly233 c11.1 c11.2 i10 (by decide) dX0_mostFrom_89 (fun r12 => ?_)
          refine x_iload 0 rfl dX0_mostFrom_90 ?_
          refine x_iushr dX0_mostFrom_92 ?_
          refine x_bipush dX0_mostFrom_93 (by decide) ?_
          refine x_iand dX0_mostFrom_95 ?_
          refine x_istore [(10, iV (xAnd (xUshr (μ7 233 r9.toNat) (4 * p1)) 15)), (9, iV (4 * p1)), (8, iV r9), (7, iV ((((p2 + p3) + p4) - (min p2 (min p3 p4))) - (max p2 (max p3 p4)))), (6, iV (max p2 (max p3 p4))), (5, iV (min p2 (min p3 p4))), (0, .ref (x.2.2.1 + 232)), (1, iV p1), (2, iV p2), (3, iV p3), (4, iV p4)] dX0_mostFrom_96 (show 10 < 12 by decide) rfl ?_
          refine x_iload 0 rfl dX0_mostFrom_98 ?_
          refine x_ifle (tgt := 108) (xAnd_in _ _)  dX0_mostFrom_100 (by decide) (fun k13 => ?_) (fun k13 => ?_)
          · have h := h.1 k13
            refine x_aload_n 6 rfl dX0_mostFrom_108 ?_
            refine x_iload_n 7 rfl dX0_mostFrom_109 ?_
            refine x_iconst dX0_mostFrom_110 ?_
            refine x_iadd dX0_mostFrom_111 ?_
            refine x_iload 5 rfl dX0_mostFrom_112 ?_
            refine x_iload 3 rfl dX0_mostFrom_114 ?_
            refine x_iload 4 rfl dX0_mostFrom_116 ?_
            obtain ⟨c14, h⟩ := h
            refine x_callVi (As := [iV (p1 + 1), iV (min p2 (min p3 p4)), iV ((((p2 + p3) + p4) - (min p2 (min p3 p4))) - (max p2 (max p3 p4))), iV (max p2 (max p3 p4))]) (rest := []) cal_X0_mostFrom ins_X0_mostFrom sel_X0_mostFrom ly232 (by decide) rfl (hF (p1 + 1) (min p2 (min p3 p4)) ((((p2 + p3) + p4) - (min p2 (min p3 p4))) - (max p2 (max p3 p4))) (max p2 (max p3 p4)) _ _ c14 (xmin_in hp2 (xmin_in hp3 hp4)) c6 (xmax_in hp2 (xmax_in hp3 hp4)) h) rfl ml_X0_39 (xRoom (show dF + 1 ≤ dM by omega)) (Nat.le_of_ble_eq_true rfl) dX0_mostFrom_118 (fun r17 μ15 i18 n16 h => ?_)
            have h := h i18 n16
            refine x_aload_n 6 rfl dX0_mostFrom_121 ?_
            refine x_iload_n 7 rfl dX0_mostFrom_122 ?_
            refine x_iload 5 rfl dX0_mostFrom_123 ?_
            refine x_iload 3 rfl dX0_mostFrom_125 ?_
            refine x_iload 4 rfl dX0_mostFrom_127 ?_
            refine x_callVi (As := [iV p1, iV (min p2 (min p3 p4)), iV ((((p2 + p3) + p4) - (min p2 (min p3 p4))) - (max p2 (max p3 p4))), iV (max p2 (max p3 p4))]) (rest := [iV r17]) cal_X0_mostSeated ins_X0_mostSeated sel_X0_mostSeated ly232 (by decide) rfl (xX0_mostSeated x F p1 (min p2 (min p3 p4)) ((((p2 + p3) + p4) - (min p2 (min p3 p4))) - (max p2 (max p3 p4))) (max p2 (max p3 p4)) _ _ hp1 (xmin_in hp2 (xmin_in hp3 hp4)) c6 (xmax_in hp2 (xmax_in hp3 hp4)) dF hF (dM - 1) (by omega) (by omega) h) rfl ml_X0_74 (xRoom (show dM - 1 + 1 ≤ dM by omega)) (Nat.le_of_ble_eq_true rfl) dX0_mostFrom_129 (fun r21 μ19 i22 n20 h => ?_)
            have h := h i22 n20
            refine x_max i18 i22 ml_X0_62 (xRoom1 (show 1 ≤ dM by omega)) (Nat.le_of_ble_eq_true rfl) dX0_mostFrom_132 ?_
            refine x_istore [(11, iV (max r17 r21)), (10, iV (xAnd (xUshr (μ7 233 r9.toNat) (4 * p1)) 15)), (9, iV (4 * p1)), (8, iV r9), (7, iV ((((p2 + p3) + p4) - (min p2 (min p3 p4))) - (max p2 (max p3 p4)))), (6, iV (max p2 (max p3 p4))), (5, iV (min p2 (min p3 p4))), (0, .ref (x.2.2.1 + 232)), (1, iV p1), (2, iV p2), (3, iV p3), (4, iV p4)] dX0_mostFrom_135 (show 11 < 12 by decide) rfl ?_
            refine x_aload_n 7 rfl dX0_mostFrom_137 ?_
            refine x_getR (j := 0) (r := 39) ly232 (by decide) rfl rfl (by decide) inT0 fl_X0_18 dX0_mostFrom_138 ?_
            refine x_getI (j := 0) ly39 (by decide) rfl rfl (by decide) inT2 fl_X0_77 dX0_mostFrom_141 (fun r23 => ?_)
            refine x_iconst dX0_mostFrom_144 ?_
            refine x_icmple (tgt := 173) r23 ⟨by decide, by decide⟩ dX0_mostFrom_145 (by decide) (fun k24 => ?_) (fun k24 => ?_)
            · have h := h.1 k24
              exact x_sub [7, 8, 6, 5, 4, 3, 2, 0] rfl (xX0_mostFrom_b173 x F p1 p2 p3 p4 (min p2 (min p3 p4)) (max p2 (max p3 p4)) ((((p2 + p3) + p4) - (min p2 (min p3 p4))) - (max p2 (max p3 p4))) r9 (4 * p1) (max r17 r21) μ19 Q  hp1 hp2 hp3 hp4 dF hF dM hdM hdF h)
            · have h := h.2 k24
              refine x_iload 4 rfl dX0_mostFrom_148 ?_
              refine x_iload 6 rfl dX0_mostFrom_150 ?_
              refine x_icmpeq (tgt := 173) c6 (xmin_in hp2 (xmin_in hp3 hp4)) dX0_mostFrom_152 (by decide) (fun k45 => ?_) (fun k45 => ?_)
              · have h := h.1 k45
                exact x_sub [7, 8, 6, 5, 4, 3, 2, 0] rfl (xX0_mostFrom_b173 x F p1 p2 p3 p4 (min p2 (min p3 p4)) (max p2 (max p3 p4)) ((((p2 + p3) + p4) - (min p2 (min p3 p4))) - (max p2 (max p3 p4))) r9 (4 * p1) (max r17 r21) μ19 Q  hp1 hp2 hp3 hp4 dF hF dM hdM hdF h)
              · have h := h.2 k45
                refine x_iload 0 rfl dX0_mostFrom_155 ?_
                refine x_aload_n 7 rfl dX0_mostFrom_157 ?_
                refine x_iload_n 8 rfl dX0_mostFrom_158 ?_
                refine x_iload 4 rfl dX0_mostFrom_159 ?_
                refine x_iload 6 rfl dX0_mostFrom_161 ?_
                refine x_iload 5 rfl dX0_mostFrom_163 ?_
                refine x_callVi (As := [iV p1, iV ((((p2 + p3) + p4) - (min p2 (min p3 p4))) - (max p2 (max p3 p4))), iV (min p2 (min p3 p4)), iV (max p2 (max p3 p4))]) (rest := [iV (max r17 r21)]) cal_X0_mostSeated ins_X0_mostSeated sel_X0_mostSeated ly232 (by decide) rfl (xX0_mostSeated x F p1 ((((p2 + p3) + p4) - (min p2 (min p3 p4))) - (max p2 (max p3 p4))) (min p2 (min p3 p4)) (max p2 (max p3 p4)) _ _ hp1 c6 (xmin_in hp2 (xmin_in hp3 hp4)) (xmax_in hp2 (xmax_in hp3 hp4)) dF hF (dM - 1) (by omega) (by omega) h) rfl ml_X0_74 (xRoom (show dM - 1 + 1 ≤ dM by omega)) (Nat.le_of_ble_eq_true rfl) dX0_mostFrom_165 (fun r48 μ46 i49 n47 h => ?_)
                have h := h i49 n47
                refine x_max (xmax_in i18 i22) i49 ml_X0_62 (xRoom1 (show 1 ≤ dM by omega)) (Nat.le_of_ble_eq_true rfl) dX0_mostFrom_168 ?_
                refine x_istore [(11, iV (max (max r17 r21) r48)), (10, iV (xAnd (xUshr (μ7 233 r9.toNat) (4 * p1)) 15)), (9, iV (4 * p1)), (8, iV r9), (7, iV ((((p2 + p3) + p4) - (min p2 (min p3 p4))) - (max p2 (max p3 p4)))), (6, iV (max p2 (max p3 p4))), (5, iV (min p2 (min p3 p4))), (0, .ref (x.2.2.1 + 232)), (1, iV p1), (2, iV p2), (3, iV p3), (4, iV p4)] dX0_mostFrom_171 (show 11 < 12 by decide) rfl ?_
                exact x_sub [7, 8, 6, 5, 4, 3, 2, 0] rfl (xX0_mostFrom_b173 x F p1 p2 p3 p4 (min p2 (min p3 p4)) (max p2 (max p3 p4)) ((((p2 + p3) + p4) - (min p2 (min p3 p4))) - (max p2 (max p3 p4))) r9 (4 * p1) (max (max r17 r21) r48) μ46 Q  hp1 hp2 hp3 hp4 dF hF dM hdM hdF h)
          · have h := h.2 k13
            refine x_iload 0 rfl dX0_mostFrom_103 ?_
            refine x_iconst dX0_mostFrom_105 ?_
            refine x_isub dX0_mostFrom_106 ?_
            obtain ⟨c50, h⟩ := h
            exact x_iret h c50 rfl dX0_mostFrom_107
        · have h := h.2 k5
          refine x_iconst dX0_mostFrom_65 ?_
          exact x_iret h ⟨by decide, by decide⟩ rfl dX0_mostFrom_66
theorem xX0_mostFrom (x : xX) : ∀ (n : Nat) (p1 : Int) (p2 : Int) (p3 : Int) (p4 : Int) (μ : xM) (Q : Int → xM → Prop) (hp1 : xIn p1) (hp2 : xIn p2) (hp3 : xIn p3) (hp4 : xIn p4) (h : tX0_mostFrom n p1 p2 p3 p4 μ Q), xMet x (6 + 2 * n) yX0_mostFrom cX0_mostFrom 12 (some .int) [.ref (x.2.2.1 + 232), iV p1, iV p2, iV p3, iV p4] μ (xQi x Q)
  | 0, _, _, _, _, _, _, _, _, _, _, h => h.elim
  | n + 1, p1, p2, p3, p4, μ, Q, hp1, hp2, hp3, hp4, h => xX0_mostFrom_body x (tX0_mostFrom n) p1 p2 p3 p4 μ Q hp1 hp2 hp3 hp4 (6 + 2 * n) (fun p11 p21 p31 p41 μ Q hp11 hp21 hp31 hp41 h => xX0_mostFrom x n p11 p21 p31 p41 μ Q hp11 hp21 hp31 hp41 h) (6 + 2 * (n + 1)) (by omega) (by omega) h
set_option maxRecDepth 100000 in
set_option maxHeartbeats 4000000 in
theorem xX0_fromBeginning (x : xX)  (μ : xM) (Q : Int → xM → Prop)  (h : tX0_fromBeginning  μ Q) : xMet x 31 yX0_fromBeginning cX0_fromBeginning 1 (some .int) [.ref (x.2.2.1 + 232)] μ (xQi x Q) := by
  refine xMet_of (by decide +kernel) (Nat.le_of_ble_eq_true rfl) ?_
  show xW x (xRm 31, RX0, cX0_fromBeginning, 1, (some .int), fun _ _ => True) (xQi x Q) 0 [(0, .ref (x.2.2.1 + 232))] [] μ
  refine x_ran (fun n0 => ?_)
  have h := h n0 
  refine x_aload_n 0 rfl dX0_fromBeginning_0 ?_
  refine x_iconst dX0_fromBeginning_1 ?_
  refine x_bipush dX0_fromBeginning_2 (by decide) ?_
  refine x_bipush dX0_fromBeginning_4 (by decide) ?_
  refine x_bipush dX0_fromBeginning_6 (by decide) ?_
  refine x_callVi (As := [iV 0, iV 24, iV 24, iV 24]) (rest := []) cal_X0_mostFrom ins_X0_mostFrom sel_X0_mostFrom ly232 (by decide) rfl (xX0_mostFrom x 12 0 24 24 24 _ _ ⟨by decide, by decide⟩ ⟨by decide, by decide⟩ ⟨by decide, by decide⟩ ⟨by decide, by decide⟩ h) rfl ml_X0_39 (xRoom (Nat.le_of_ble_eq_true rfl)) (Nat.le_of_ble_eq_true rfl) dX0_fromBeginning_8 (fun r3 μ1 i4 n2 h => ?_)
  have h := h i4 n2
  exact x_iret h i4 rfl dX0_fromBeginning_11
set_option maxRecDepth 100000 in
set_option maxHeartbeats 4000000 in
theorem xX4_at (x : xX) (o : Nat) (p1 : Int) (μ : xM) (Q : Int → xM → Prop) (ho : isNight o) (hp1 : xIn p1) (h : tX4_at o p1 μ Q) : xMet x 1 yX4_at cX4_at 2 (some .int) [.ref (x.2.2.1 + o), iV p1] μ (xQi x Q) := by
  refine xMet_of (by decide +kernel) (Nat.le_of_ble_eq_true rfl) ?_
  show xW x (xRm 1, RX4, cX4_at, 2, (some .int), fun _ _ => True) (xQi x Q) 0 [(0, .ref (x.2.2.1 + o)), (1, iV p1)] [] μ
  refine x_ran (fun n0 => ?_)
  have h := h n0 hp1
  refine x_iload_n 1 rfl dX4_at_0 ?_
  refine x_iflt (tgt := 18) hp1  dX4_at_1 (by decide) (fun k1 => ?_) (fun k1 => ?_)
  · have h := h.1 k1
    refine x_bipush dX4_at_18 (by decide) ?_
    exact x_iret h ⟨by decide, by decide⟩ rfl dX4_at_20
  · have h := h.2 k1
    refine x_iload_n 1 rfl dX4_at_4 ?_
    refine x_iconst dX4_at_5 ?_
    refine x_icmpge (tgt := 18) hp1 ⟨by decide, by decide⟩ dX4_at_6 (by decide) (fun k2 => ?_) (fun k2 => ?_)
    · have h := h.1 k2
      refine x_bipush dX4_at_18 (by decide) ?_
      exact x_iret h ⟨by decide, by decide⟩ rfl dX4_at_20
    · have h := h.2 k2
      refine x_aload_n 0 rfl dX4_at_9 ?_
      refine x_getR (j := 3) (r := o + 1) ho.1 (by have := ho.2.1; omega) rfl rfl (by decide) inT4 fl_X4_9 dX4_at_10 ?_
      refine x_iload_n 1 rfl dX4_at_13 ?_
      obtain ⟨c3, h⟩ := h
      refine x_iald ho.2.2 c3.1 c3.2 hp1 (by have := ho.2.1; omega) dX4_at_14 (fun r4 => ?_)
      refine x_goto (tgt := 20) dX4_at_15 (by decide) ?_
      exact x_iret h r4 rfl dX4_at_20
set_option maxRecDepth 100000 in
set_option maxHeartbeats 4000000 in
theorem xX0_behindNext_b20 (x : xX) (p1 : Nat) (p2 : Int) (p3 : Int) (s1 : Int) (s2 : Int) (μ : xM) (Q : Int → xM → Prop)  (hp1 : isNight p1) (hp2 : xIn p2) (hp3 : xIn p3)  (h : tX0_behindNext_b20 p1 p2 p3 s1 s2 μ Q ) : xW x (xRm 31, RX0, cX0_behindNext, 4, (some .int), fun _ _ => True) (xQi x Q) 20 [(1, .ref (x.2.2.1 + p1)), (2, iV p2), (3, iV p3)] [iV s2, iV s1, .ref (x.2.2.1 + 232)] μ := by
  refine x_ran (fun n0 => ?_)
  have h := h n0
  refine x_iload_n 1 rfl dX0_behindNext_20 ?_
  refine x_iconst dX0_behindNext_21 ?_
  refine x_icmpne (tgt := 29) hp2 ⟨by decide, by decide⟩ dX0_behindNext_22 (by decide) (fun k7 => ?_) (fun k7 => ?_)
  · have h := h.1 k7
    refine x_aload_n 0 rfl dX0_behindNext_29 ?_
    refine x_iconst dX0_behindNext_30 ?_
    refine x_callVi (As := [iV 1]) (rest := [iV s2, iV s1, .ref (x.2.2.1 + 232)]) cal_X4_at ins_X4_at sel_X4_at hp1.1 (by have := hp1.2.1; omega) rfl (xX4_at x p1 1 _ _ hp1 ⟨by decide, by decide⟩ h) rfl ml_X0_49 (xRoom (Nat.le_of_ble_eq_true rfl)) (Nat.le_of_ble_eq_true rfl) dX0_behindNext_31 (fun r10 μ8 i11 n9 h => ?_)
    have h := h i11 n9
    refine x_iload_n 1 rfl dX0_behindNext_34 ?_
    refine x_iconst dX0_behindNext_35 ?_
    refine x_icmpne (tgt := 43) hp2 ⟨by decide, by decide⟩ dX0_behindNext_36 (by decide) (fun k12 => ?_) (fun k12 => ?_)
    · have h := h.1 k12
      refine x_aload_n 0 rfl dX0_behindNext_43 ?_
      refine x_iconst dX0_behindNext_44 ?_
      refine x_callVi (As := [iV 2]) (rest := [iV r10, iV s2, iV s1, .ref (x.2.2.1 + 232)]) cal_X4_at ins_X4_at sel_X4_at hp1.1 (by have := hp1.2.1; omega) rfl (xX4_at x p1 2 _ _ hp1 ⟨by decide, by decide⟩ h) rfl ml_X0_49 (xRoom (Nat.le_of_ble_eq_true rfl)) (Nat.le_of_ble_eq_true rfl) dX0_behindNext_45 (fun r15 μ13 i16 n14 h => ?_)
      have h := h i16 n14
      obtain ⟨c17, h⟩ := h
      obtain ⟨c18, h⟩ := h
      refine x_callVi (As := [iV s1, iV s2, iV r10, iV r15]) (rest := []) cal_X0_mostFrom ins_X0_mostFrom sel_X0_mostFrom ly232 (by decide) rfl (xX0_mostFrom x 12 s1 s2 r10 r15 _ _ c17 c18 i11 i16 h) rfl ml_X0_39 (xRoom (Nat.le_of_ble_eq_true rfl)) (Nat.le_of_ble_eq_true rfl) dX0_behindNext_48 (fun r21 μ19 i22 n20 h => ?_)
      have h := h i22 n20
      exact x_iret h i22 rfl dX0_behindNext_51
    · have h := h.2 k12
      refine x_iload_n 2 rfl dX0_behindNext_39 ?_
      refine x_goto (tgt := 48) dX0_behindNext_40 (by decide) ?_
      obtain ⟨c23, h⟩ := h
      obtain ⟨c24, h⟩ := h
      refine x_callVi (As := [iV s1, iV s2, iV r10, iV p3]) (rest := []) cal_X0_mostFrom ins_X0_mostFrom sel_X0_mostFrom ly232 (by decide) rfl (xX0_mostFrom x 12 s1 s2 r10 p3 _ _ c23 c24 i11 hp3 h) rfl ml_X0_39 (xRoom (Nat.le_of_ble_eq_true rfl)) (Nat.le_of_ble_eq_true rfl) dX0_behindNext_48 (fun r27 μ25 i28 n26 h => ?_)
      have h := h i28 n26
      exact x_iret h i28 rfl dX0_behindNext_51
  · have h := h.2 k7
    refine x_iload_n 2 rfl dX0_behindNext_25 ?_
    refine x_goto (tgt := 34) dX0_behindNext_26 (by decide) ?_
    refine x_iload_n 1 rfl dX0_behindNext_34 ?_
    refine x_iconst dX0_behindNext_35 ?_
    refine x_icmpne (tgt := 43) hp2 ⟨by decide, by decide⟩ dX0_behindNext_36 (by decide) (fun k29 => ?_) (fun k29 => ?_)
    · have h := h.1 k29
      refine x_aload_n 0 rfl dX0_behindNext_43 ?_
      refine x_iconst dX0_behindNext_44 ?_
      refine x_callVi (As := [iV 2]) (rest := [iV p3, iV s2, iV s1, .ref (x.2.2.1 + 232)]) cal_X4_at ins_X4_at sel_X4_at hp1.1 (by have := hp1.2.1; omega) rfl (xX4_at x p1 2 _ _ hp1 ⟨by decide, by decide⟩ h) rfl ml_X0_49 (xRoom (Nat.le_of_ble_eq_true rfl)) (Nat.le_of_ble_eq_true rfl) dX0_behindNext_45 (fun r32 μ30 i33 n31 h => ?_)
      have h := h i33 n31
      obtain ⟨c34, h⟩ := h
      obtain ⟨c35, h⟩ := h
      refine x_callVi (As := [iV s1, iV s2, iV p3, iV r32]) (rest := []) cal_X0_mostFrom ins_X0_mostFrom sel_X0_mostFrom ly232 (by decide) rfl (xX0_mostFrom x 12 s1 s2 p3 r32 _ _ c34 c35 hp3 i33 h) rfl ml_X0_39 (xRoom (Nat.le_of_ble_eq_true rfl)) (Nat.le_of_ble_eq_true rfl) dX0_behindNext_48 (fun r38 μ36 i39 n37 h => ?_)
      have h := h i39 n37
      exact x_iret h i39 rfl dX0_behindNext_51
    · have h := h.2 k29
      refine x_iload_n 2 rfl dX0_behindNext_39 ?_
      refine x_goto (tgt := 48) dX0_behindNext_40 (by decide) ?_
      obtain ⟨c40, h⟩ := h
      obtain ⟨c41, h⟩ := h
      refine x_callVi (As := [iV s1, iV s2, iV p3, iV p3]) (rest := []) cal_X0_mostFrom ins_X0_mostFrom sel_X0_mostFrom ly232 (by decide) rfl (xX0_mostFrom x 12 s1 s2 p3 p3 _ _ c40 c41 hp3 hp3 h) rfl ml_X0_39 (xRoom (Nat.le_of_ble_eq_true rfl)) (Nat.le_of_ble_eq_true rfl) dX0_behindNext_48 (fun r44 μ42 i45 n43 h => ?_)
      have h := h i45 n43
      exact x_iret h i45 rfl dX0_behindNext_51
set_option maxRecDepth 100000 in
set_option maxHeartbeats 4000000 in
theorem xX0_behindNext (x : xX) (p1 : Nat) (p2 : Int) (p3 : Int) (μ : xM) (Q : Int → xM → Prop) (hp1 : isNight p1) (hp2 : xIn p2) (hp3 : xIn p3) (h : tX0_behindNext p1 p2 p3 μ Q) : xMet x 31 yX0_behindNext cX0_behindNext 4 (some .int) [.ref (x.2.2.1 + 232), .ref (x.2.2.1 + p1), iV p2, iV p3] μ (xQi x Q) := by
  refine xMet_of (by decide +kernel) (Nat.le_of_ble_eq_true rfl) ?_
  show xW x (xRm 31, RX0, cX0_behindNext, 4, (some .int), fun _ _ => True) (xQi x Q) 0 [(0, .ref (x.2.2.1 + 232)), (1, .ref (x.2.2.1 + p1)), (2, iV p2), (3, iV p3)] [] μ
  refine x_ran (fun n0 => ?_)
  have h := h n0 hp2 hp3
  refine x_aload_n 0 rfl dX0_behindNext_0 ?_
  refine x_aload_n 1 rfl dX0_behindNext_1 ?_
  refine x_getI (j := 1) hp1.1 (by have := hp1.2.1; omega) rfl rfl (by decide) inT4 fl_X0_43 dX0_behindNext_2 (fun r1 => ?_)
  refine x_iconst dX0_behindNext_5 ?_
  refine x_iadd dX0_behindNext_6 ?_
  refine x_iload_n 2 rfl dX0_behindNext_7 ?_
  refine x_ifne (tgt := 15) hp2  dX0_behindNext_8 (by decide) (fun k2 => ?_) (fun k2 => ?_)
  · have h := h.1 k2
    refine x_aload_n 1 rfl dX0_behindNext_15 ?_
    refine x_iconst dX0_behindNext_16 ?_
    refine x_callVi (As := [iV 0]) (rest := [iV ((μ p1 1) + 1), .ref (x.2.2.1 + 232)]) cal_X4_at ins_X4_at sel_X4_at hp1.1 (by have := hp1.2.1; omega) rfl (xX4_at x p1 0 _ _ hp1 ⟨by decide, by decide⟩ h) rfl ml_X0_49 (xRoom (Nat.le_of_ble_eq_true rfl)) (Nat.le_of_ble_eq_true rfl) dX0_behindNext_17 (fun r5 μ3 i6 n4 h => ?_)
    have h := h i6 n4
    exact x_sub [1, 2, 3] rfl (xX0_behindNext_b20 x p1 p2 p3 ((μ p1 1) + 1) r5 μ3 Q  hp1 hp2 hp3 h)
  · have h := h.2 k2
    refine x_iload_n 3 rfl dX0_behindNext_11 ?_
    refine x_goto (tgt := 20) dX0_behindNext_12 (by decide) ?_
    exact x_sub [1, 2, 3] rfl (xX0_behindNext_b20 x p1 p2 p3 ((μ p1 1) + 1) p3 μ Q  hp1 hp2 hp3 h)
set_option maxRecDepth 100000 in
set_option maxHeartbeats 4000000 in
theorem xX2_likelyOf (x : xX) (o : Nat) (p1 : Int) (μ : xM) (Q : Int → xM → Prop) (ho : isHouse o) (hp1 : xIn p1) (h : tX2_likelyOf o p1 μ Q) : xMet x 1 yX2_likelyOf cX2_likelyOf 2 (some .int) [.ref (x.2.2.1 + o), iV p1] μ (xQi x Q) := by
  refine xMet_of (by decide +kernel) (Nat.le_of_ble_eq_true rfl) ?_
  show xW x (xRm 1, RX2, cX2_likelyOf, 2, (some .int), fun _ _ => True) (xQi x Q) 0 [(0, .ref (x.2.2.1 + o)), (1, iV p1)] [] μ
  refine x_ran (fun n0 => ?_)
  have h := h n0 hp1
  refine x_iload_n 1 rfl dX2_likelyOf_0 ?_
  refine x_iflt (tgt := 27) hp1  dX2_likelyOf_1 (by decide) (fun k1 => ?_) (fun k1 => ?_)
  · have h := h.1 k1
    refine x_iconst dX2_likelyOf_27 ?_
    exact x_iret h ⟨by decide, by decide⟩ rfl dX2_likelyOf_28
  · have h := h.2 k1
    refine x_iload_n 1 rfl dX2_likelyOf_4 ?_
    refine x_aload_n 0 rfl dX2_likelyOf_5 ?_
    refine x_getI (j := 5) ho.1 (by have := ho.2.1; omega) rfl rfl (by decide) inT2 fl_X2_61 dX2_likelyOf_6 (fun r2 => ?_)
    refine x_icmpge (tgt := 27) hp1 r2 dX2_likelyOf_9 (by decide) (fun k3 => ?_) (fun k3 => ?_)
    · have h := h.1 k3
      refine x_iconst dX2_likelyOf_27 ?_
      exact x_iret h ⟨by decide, by decide⟩ rfl dX2_likelyOf_28
    · have h := h.2 k3
      refine x_iload_n 1 rfl dX2_likelyOf_12 ?_
      refine x_bipush dX2_likelyOf_13 (by decide) ?_
      refine x_icmpge (tgt := 27) hp1 ⟨by decide, by decide⟩ dX2_likelyOf_15 (by decide) (fun k4 => ?_) (fun k4 => ?_)
      · have h := h.1 k4
        refine x_iconst dX2_likelyOf_27 ?_
        exact x_iret h ⟨by decide, by decide⟩ rfl dX2_likelyOf_28
      · have h := h.2 k4
        refine x_aload_n 0 rfl dX2_likelyOf_18 ?_
        refine x_getR (j := 12) (r := o + 31) ho.1 (by have := ho.2.1; omega) rfl rfl (by decide) inT2 fl_X2_30 dX2_likelyOf_19 ?_
        refine x_iload_n 1 rfl dX2_likelyOf_22 ?_
        obtain ⟨c5, h⟩ := h
        refine x_iald ho.2.2.2.2.2.2.2.2.1 c5.1 c5.2 hp1 (by have := ho.2.1; omega) dX2_likelyOf_23 (fun r6 => ?_)
        refine x_goto (tgt := 28) dX2_likelyOf_24 (by decide) ?_
        exact x_iret h r6 rfl dX2_likelyOf_28
set_option maxRecDepth 100000 in
set_option maxHeartbeats 4000000 in
theorem xX2_weightOf (x : xX) (o : Nat) (p1 : Int) (μ : xM) (Q : Int → xM → Prop) (ho : isHouse o) (hp1 : xIn p1) (h : tX2_weightOf o p1 μ Q) : xMet x 1 yX2_weightOf cX2_weightOf 2 (some .int) [.ref (x.2.2.1 + o), iV p1] μ (xQi x Q) := by
  refine xMet_of (by decide +kernel) (Nat.le_of_ble_eq_true rfl) ?_
  show xW x (xRm 1, RX2, cX2_weightOf, 2, (some .int), fun _ _ => True) (xQi x Q) 0 [(0, .ref (x.2.2.1 + o)), (1, iV p1)] [] μ
  refine x_ran (fun n0 => ?_)
  have h := h n0 hp1
  refine x_iload_n 1 rfl dX2_weightOf_0 ?_
  refine x_iflt (tgt := 27) hp1  dX2_weightOf_1 (by decide) (fun k1 => ?_) (fun k1 => ?_)
  · have h := h.1 k1
    refine x_iconst dX2_weightOf_27 ?_
    exact x_iret h ⟨by decide, by decide⟩ rfl dX2_weightOf_28
  · have h := h.2 k1
    refine x_iload_n 1 rfl dX2_weightOf_4 ?_
    refine x_aload_n 0 rfl dX2_weightOf_5 ?_
    refine x_getI (j := 5) ho.1 (by have := ho.2.1; omega) rfl rfl (by decide) inT2 fl_X2_61 dX2_weightOf_6 (fun r2 => ?_)
    refine x_icmpge (tgt := 27) hp1 r2 dX2_weightOf_9 (by decide) (fun k3 => ?_) (fun k3 => ?_)
    · have h := h.1 k3
      refine x_iconst dX2_weightOf_27 ?_
      exact x_iret h ⟨by decide, by decide⟩ rfl dX2_weightOf_28
    · have h := h.2 k3
      refine x_iload_n 1 rfl dX2_weightOf_12 ?_
      refine x_bipush dX2_weightOf_13 (by decide) ?_
      refine x_icmpge (tgt := 27) hp1 ⟨by decide, by decide⟩ dX2_weightOf_15 (by decide) (fun k4 => ?_) (fun k4 => ?_)
      · have h := h.1 k4
        refine x_iconst dX2_weightOf_27 ?_
        exact x_iret h ⟨by decide, by decide⟩ rfl dX2_weightOf_28
      · have h := h.2 k4
        refine x_aload_n 0 rfl dX2_weightOf_18 ?_
        refine x_getR (j := 13) (r := o + 32) ho.1 (by have := ho.2.1; omega) rfl rfl (by decide) inT2 fl_X2_33 dX2_weightOf_19 ?_
        refine x_iload_n 1 rfl dX2_weightOf_22 ?_
        obtain ⟨c5, h⟩ := h
        refine x_iald ho.2.2.2.2.2.2.2.2.2.1 c5.1 c5.2 hp1 (by have := ho.2.1; omega) dX2_weightOf_23 (fun r6 => ?_)
        refine x_goto (tgt := 28) dX2_weightOf_24 (by decide) ?_
        exact x_iret h r6 rfl dX2_weightOf_28
set_option maxRecDepth 100000 in
set_option maxHeartbeats 4000000 in
theorem xX0_weightOf (x : xX) (p1 : Int) (μ : xM) (Q : Int → xM → Prop) (hp1 : xIn p1) (h : tX0_weightOf p1 μ Q) : xMet x 2 yX0_weightOf cX0_weightOf 5 (some .int) [.ref (x.2.2.1 + 232), iV p1] μ (xQi x Q) := by
  refine xMet_of (by decide +kernel) (Nat.le_of_ble_eq_true rfl) ?_
  show xW x (xRm 2, RX0, cX0_weightOf, 5, (some .int), fun _ _ => True) (xQi x Q) 0 [(0, .ref (x.2.2.1 + 232)), (1, iV p1)] [] μ
  refine x_ran (fun n0 => ?_)
  have h := h n0 hp1
  refine x_iconst dX0_weightOf_0 ?_
  refine x_istore_n [(2, iV 0), (0, .ref (x.2.2.1 + 232)), (1, iV p1)] dX0_weightOf_1 (show 2 < 5 by decide) rfl ?_
  refine x_iconst dX0_weightOf_2 ?_
  refine x_istore_n [(3, iV 0), (2, iV 0), (0, .ref (x.2.2.1 + 232)), (1, iV p1)] dX0_weightOf_3 (show 3 < 5 by decide) rfl ?_
  refine x_sub [2, 3, 1, 0] rfl ?_
  refine x_loop2 (fun l2_1 l3_2 => [(0, .ref (x.2.2.1 + 232)), (1, iV p1), (2, iV l2_1), (3, iV l3_2)]) h (fun J4 l2_1 l3_2 μ3 hJ4 h n4 => ?_)
  refine x_iload_n 3 rfl dX0_weightOf_4 ?_
  refine x_aload_n 0 rfl dX0_weightOf_5 ?_
  refine x_getR (j := 0) (r := 39) ly232 (by decide) rfl rfl (by decide) inT0 fl_X0_18 dX0_weightOf_6 ?_
  refine x_getI (j := 5) ly39 (by decide) rfl rfl (by decide) inT2 fl_X0_94 dX0_weightOf_9 (fun r5 => ?_)
  obtain ⟨c6, h⟩ := h
  refine x_icmpge (tgt := 32) c6 r5 dX0_weightOf_12 (by decide) (fun k7 => ?_) (fun k7 => ?_)
  · have h := h.1 k7
    refine x_iconst dX0_weightOf_32 ?_
    refine x_istore_n [(3, iV 1), (0, .ref (x.2.2.1 + 232)), (1, iV p1), (2, iV l2_1)] dX0_weightOf_33 (show 3 < 5 by decide) rfl ?_
    refine x_iconst dX0_weightOf_34 ?_
    refine x_istore [(4, iV 0), (3, iV 1), (0, .ref (x.2.2.1 + 232)), (1, iV p1), (2, iV l2_1)] dX0_weightOf_35 (show 4 < 5 by decide) rfl ?_
    refine x_sub [3, 4, 1, 0] rfl ?_
    refine x_loop2 (fun l3_8 l4_9 => [(1, iV p1), (2, iV l2_1), (3, iV l3_8), (4, iV l4_9)]) h (fun J37 l3_8 l4_9 μ10 hJ37 h n11 => ?_)
    refine x_iload 3 rfl dX0_weightOf_37 ?_
    refine x_iload_n 0 rfl dX0_weightOf_39 ?_
    obtain ⟨c12, h⟩ := h
    refine x_icmpge (tgt := 59) c12 hp1 dX0_weightOf_40 (by decide) (fun k13 => ?_) (fun k13 => ?_)
    · have h := h.1 k13
      refine x_iload_n 2 rfl dX0_weightOf_59 ?_
      obtain ⟨c14, h⟩ := h
      exact x_iret h c14 rfl dX0_weightOf_60
    · have h := h.2 k13
      refine x_iload 3 rfl dX0_weightOf_43 ?_
      refine x_iconst dX0_weightOf_45 ?_
      refine x_icmpge (tgt := 59) c12 ⟨by decide, by decide⟩ dX0_weightOf_46 (by decide) (fun k15 => ?_) (fun k15 => ?_)
      · have h := h.1 k15
        refine x_iload_n 2 rfl dX0_weightOf_59 ?_
        obtain ⟨c16, h⟩ := h
        exact x_iret h c16 rfl dX0_weightOf_60
      · have h := h.2 k15
        refine x_iload_n 2 rfl dX0_weightOf_49 ?_
        refine x_iload_n 1 rfl dX0_weightOf_50 ?_
        refine x_imul dX0_weightOf_51 ?_
        refine x_istore_n [(3, iV (l3_8 * l2_1)), (1, iV p1), (2, iV l2_1), (4, iV l4_9)] dX0_weightOf_52 (show 3 < 5 by decide) rfl ?_
        refine x_iinc 3 rfl [(4, iV (l4_9 + 1)), (3, iV (l3_8 * l2_1)), (1, iV p1), (2, iV l2_1)] dX0_weightOf_53 (show 4 < 5 by decide) rfl ?_
        refine x_goto (tgt := 37) dX0_weightOf_56 (by decide) ?_
        exact x_sub [2, 3, 1, 0] rfl (hJ37 _ _ _ h)
  · have h := h.2 k7
    refine x_iload_n 2 rfl dX0_weightOf_15 ?_
    refine x_aload_n 0 rfl dX0_weightOf_16 ?_
    refine x_getR (j := 0) (r := 39) ly232 (by decide) rfl rfl (by decide) inT0 fl_X0_18 dX0_weightOf_17 ?_
    refine x_iload_n 3 rfl dX0_weightOf_20 ?_
    refine x_callVi (As := [iV l3_2]) (rest := [iV l2_1]) cal_X2_weightOf ins_X2_weightOf sel_X2_weightOf ly39 (by decide) rfl (xX2_weightOf x 39 l3_2 _ _ isHouse_39 c6 h) rfl ml_X0_104 (xRoom (Nat.le_of_ble_eq_true rfl)) (Nat.le_of_ble_eq_true rfl) dX0_weightOf_21 (fun r19 μ17 i20 n18 h => ?_)
    have h := h i20 n18
    refine x_iadd dX0_weightOf_24 ?_
    refine x_istore_n [(2, iV (l2_1 + r19)), (0, .ref (x.2.2.1 + 232)), (1, iV p1), (3, iV l3_2)] dX0_weightOf_25 (show 2 < 5 by decide) rfl ?_
    refine x_iinc 3 rfl [(3, iV (l3_2 + 1)), (2, iV (l2_1 + r19)), (0, .ref (x.2.2.1 + 232)), (1, iV p1)] dX0_weightOf_26 (show 3 < 5 by decide) rfl ?_
    refine x_goto (tgt := 4) dX0_weightOf_29 (by decide) ?_
    exact x_sub [2, 3, 1, 0] rfl (hJ4 _ _ _ h)
set_option maxRecDepth 100000 in
set_option maxHeartbeats 4000000 in
theorem xX0_hopedSeated (x : xX) (F : Int → Int → Int → Int → xM → (Int → xM → Prop) → Prop) (p1 : Int) (p2 : Int) (p3 : Int) (p4 : Int) (p5 : Int) (μ : xM) (Q : Int → xM → Prop) (hp1 : xIn p1) (hp2 : xIn p2) (hp3 : xIn p3) (hp4 : xIn p4) (hp5 : xIn p5) (dF : Nat) (hF : ∀ (q0 q1 q2 q3 : Int) (μ : xM) (Q : Int → xM → Prop), xIn q0 → xIn q1 → xIn q2 → xIn q3 → F q0 q1 q2 q3 μ Q → xMet x dF yX0_hoped cX0_hoped 14 (some .int) [.ref (x.2.2.1 + 232), iV q0, iV q1, iV q2, iV q3] μ (xQi x Q)) (dM : Nat) (hdM : 5 ≤ dM) (hdF : dF + 1 ≤ dM) (h : tX0_hopedSeated F p1 p2 p3 p4 p5 μ Q) : xMet x dM yX0_hopedSeated cX0_hopedSeated 8 (some .int) [.ref (x.2.2.1 + 232), iV p1, iV p2, iV p3, iV p4, iV p5] μ (xQi x Q) := by
  refine xMet_of (by decide +kernel) (Nat.le_of_ble_eq_true rfl) ?_
  show xW x (xRm dM, RX0, cX0_hopedSeated, 8, (some .int), fun _ _ => True) (xQi x Q) 0 [(0, .ref (x.2.2.1 + 232)), (1, iV p1), (2, iV p2), (3, iV p3), (4, iV p4), (5, iV p5)] [] μ
  refine x_ran (fun n0 => ?_)
  have h := h n0 hp1 hp2 hp3 hp4 hp5
  refine x_iconst dX0_hopedSeated_0 ?_
  refine x_istore [(6, iV 0), (0, .ref (x.2.2.1 + 232)), (1, iV p1), (2, iV p2), (3, iV p3), (4, iV p4), (5, iV p5)] dX0_hopedSeated_1 (show 6 < 8 by decide) rfl ?_
  refine x_iconst dX0_hopedSeated_3 ?_
  refine x_istore [(7, iV 0), (6, iV 0), (0, .ref (x.2.2.1 + 232)), (1, iV p1), (2, iV p2), (3, iV p3), (4, iV p4), (5, iV p5)] dX0_hopedSeated_4 (show 7 < 8 by decide) rfl ?_
  refine x_sub [2, 3, 4, 5, 6, 7, 1, 0] rfl ?_
  refine x_loop2 (fun l6_1 l7_2 => [(0, .ref (x.2.2.1 + 232)), (1, iV p1), (2, iV p2), (3, iV p3), (4, iV p4), (5, iV p5), (6, iV l6_1), (7, iV l7_2)]) h (fun J6 l6_1 l7_2 μ3 hJ6 h n4 => ?_)
  refine x_iload 7 rfl dX0_hopedSeated_6 ?_
  refine x_aload_n 0 rfl dX0_hopedSeated_8 ?_
  refine x_getR (j := 1) (r := 73) ly232 (by decide) rfl rfl (by decide) inT0 fl_X0_22 dX0_hopedSeated_9 ?_
  refine x_iload_n 3 rfl dX0_hopedSeated_12 ?_
  refine x_callVi (As := [iV p3]) (rest := [iV l7_2]) cal_X1_ups ins_X1_ups sel_X1_ups ly73 (by decide) rfl (xX1_ups x p3 _ _ hp3 h) rfl ml_X0_83 (xRoom (show 2 + 1 ≤ dM by omega)) (Nat.le_of_ble_eq_true rfl) dX0_hopedSeated_13 (fun r7 μ5 i8 n6 h => ?_)
  have h := h i8 n6
  obtain ⟨c9, h⟩ := h
  refine x_icmpge (tgt := 75) c9 i8 dX0_hopedSeated_16 (by decide) (fun k10 => ?_) (fun k10 => ?_)
  · have h := h.1 k10
    refine x_iload 6 rfl dX0_hopedSeated_75 ?_
    obtain ⟨c11, h⟩ := h
    exact x_iret h c11 rfl dX0_hopedSeated_77
  · have h := h.2 k10
    refine x_aload_n 0 rfl dX0_hopedSeated_19 ?_
    refine x_getR (j := 1) (r := 73) ly232 (by decide) rfl rfl (by decide) inT0 fl_X0_22 dX0_hopedSeated_20 ?_
    refine x_iload_n 3 rfl dX0_hopedSeated_23 ?_
    refine x_iload 7 rfl dX0_hopedSeated_24 ?_
    refine x_callVi (As := [iV p3, iV l7_2]) (rest := []) cal_X1_byOf ins_X1_byOf sel_X1_byOf ly73 (by decide) rfl (xX1_byOf x p3 l7_2 _ _ hp3 c9 h) rfl ml_X0_88 (xRoom (show 2 + 1 ≤ dM by omega)) (Nat.le_of_ble_eq_true rfl) dX0_hopedSeated_26 (fun r14 μ12 i15 n13 h => ?_)
    have h := h i15 n13
    refine x_iload_n 2 rfl dX0_hopedSeated_29 ?_
    refine x_icmpne (tgt := 69) i15 hp2 dX0_hopedSeated_30 (by decide) (fun k16 => ?_) (fun k16 => ?_)
    · have h := h.1 k16
      refine x_iinc 7 rfl [(7, iV (l7_2 + 1)), (0, .ref (x.2.2.1 + 232)), (1, iV p1), (2, iV p2), (3, iV p3), (4, iV p4), (5, iV p5), (6, iV l6_1)] dX0_hopedSeated_69 (show 7 < 8 by decide) rfl ?_
      refine x_goto (tgt := 6) dX0_hopedSeated_72 (by decide) ?_
      exact x_sub [1, 2, 3, 4, 5, 6, 7, 0] rfl (hJ6 _ _ _ h)
    · have h := h.2 k16
      refine x_iload 6 rfl dX0_hopedSeated_33 ?_
      refine x_aload_n 0 rfl dX0_hopedSeated_35 ?_
      refine x_iload_n 1 rfl dX0_hopedSeated_36 ?_
      refine x_iconst dX0_hopedSeated_37 ?_
      refine x_isub dX0_hopedSeated_38 ?_
      obtain ⟨c17, h⟩ := h
      refine x_callVi (As := [iV (p1 - 1)]) (rest := [iV l6_1]) cal_X0_weightOf ins_X0_weightOf sel_X0_weightOf ly232 (by decide) rfl (xX0_weightOf x (p1 - 1) _ _ c17 h) rfl ml_X0_107 (xRoom (show 2 + 1 ≤ dM by omega)) (Nat.le_of_ble_eq_true rfl) dX0_hopedSeated_39 (fun r20 μ18 i21 n19 h => ?_)
      have h := h i21 n19
      refine x_aload_n 0 rfl dX0_hopedSeated_42 ?_
      refine x_iload_n 1 rfl dX0_hopedSeated_43 ?_
      refine x_iconst dX0_hopedSeated_44 ?_
      refine x_isub dX0_hopedSeated_45 ?_
      refine x_aload_n 0 rfl dX0_hopedSeated_46 ?_
      refine x_getR (j := 1) (r := 73) ly232 (by decide) rfl rfl (by decide) inT0 fl_X0_22 dX0_hopedSeated_47 ?_
      refine x_iload_n 3 rfl dX0_hopedSeated_50 ?_
      refine x_iload 7 rfl dX0_hopedSeated_51 ?_
      refine x_callVi (As := [iV p3, iV l7_2]) (rest := [iV (p1 - 1), .ref (x.2.2.1 + 232), iV r20, iV l6_1]) cal_X1_upOf ins_X1_upOf sel_X1_upOf ly73 (by decide) rfl (xX1_upOf x p3 l7_2 _ _ hp3 c9 h) rfl ml_X0_91 (xRoom (show 2 + 1 ≤ dM by omega)) (Nat.le_of_ble_eq_true rfl) dX0_hopedSeated_53 (fun r24 μ22 i25 n23 h => ?_)
      have h := h i25 n23
      refine x_iload 4 rfl dX0_hopedSeated_56 ?_
      refine x_iload 5 rfl dX0_hopedSeated_58 ?_
      refine x_callVi (As := [iV (p1 - 1), iV r24, iV p4, iV p5]) (rest := [iV r20, iV l6_1]) cal_X0_hoped ins_X0_hoped sel_X0_hoped ly232 (by decide) rfl (hF (p1 - 1) r24 p4 p5 _ _ c17 i25 hp4 hp5 h) rfl ml_X0_53 (xRoom (show dF + 1 ≤ dM by omega)) (Nat.le_of_ble_eq_true rfl) dX0_hopedSeated_60 (fun r28 μ26 i29 n27 h => ?_)
      have h := h i29 n27
      refine x_iadd dX0_hopedSeated_63 ?_
      obtain ⟨c30, h⟩ := h
      obtain ⟨c31, h⟩ := h
      refine x_max c30 c31 ml_X0_62 (xRoom1 (show 1 ≤ dM by omega)) (Nat.le_of_ble_eq_true rfl) dX0_hopedSeated_64 ?_
      refine x_istore [(6, iV (max l6_1 (r20 + r28))), (0, .ref (x.2.2.1 + 232)), (1, iV p1), (2, iV p2), (3, iV p3), (4, iV p4), (5, iV p5), (7, iV l7_2)] dX0_hopedSeated_67 (show 6 < 8 by decide) rfl ?_
      refine x_iinc 7 rfl [(7, iV (l7_2 + 1)), (6, iV (max l6_1 (r20 + r28))), (0, .ref (x.2.2.1 + 232)), (1, iV p1), (2, iV p2), (3, iV p3), (4, iV p4), (5, iV p5)] dX0_hopedSeated_69 (show 7 < 8 by decide) rfl ?_
      refine x_goto (tgt := 6) dX0_hopedSeated_72 (by decide) ?_
      exact x_sub [2, 3, 4, 5, 6, 7, 1, 0] rfl (hJ6 _ _ _ h)
set_option maxRecDepth 100000 in
set_option maxHeartbeats 4000000 in
theorem xX0_hoped_b203 (x : xX) (F : Int → Int → Int → Int → xM → (Int → xM → Prop) → Prop) (p1 : Int) (p2 : Int) (p3 : Int) (p4 : Int) (b5 : Int) (b6 : Int) (b7 : Int) (b8 : Int) (b9 : Int) (b10 : Int) (b11 : Int) (b12 : Int) (b13 : Int) (μ : xM) (Q : Int → xM → Prop) (J122 : Int → Int → xM → Prop) (hp1 : xIn p1) (hp2 : xIn p2) (hp3 : xIn p3) (hp4 : xIn p4)  (dF : Nat) (hF : ∀ (q0 q1 q2 q3 : Int) (μ : xM) (Q : Int → xM → Prop), xIn q0 → xIn q1 → xIn q2 → xIn q3 → F q0 q1 q2 q3 μ Q → xMet x dF yX0_hoped cX0_hoped 14 (some .int) [.ref (x.2.2.1 + 232), iV q0, iV q1, iV q2, iV q3] μ (xQi x Q)) (dM : Nat) (hdM : 6 ≤ dM) (hdF : dF + 2 ≤ dM) (hJ122 : ∀ (c10 c11 : Int) (ν : xM), J122 c10 c11 ν → xW x (xRm dM, RX0, cX0_hoped, 14, (some .int), fun _ _ => True) (xQi x Q) 122 [(0, .ref (x.2.2.1 + 232)), (1, iV p1), (5, iV b5), (6, iV b6), (7, iV b7), (8, iV b8), (9, iV b9), (10, iV c10), (11, iV c11)] [] ν) (h : tX0_hoped_b203 F p1 p2 p3 p4 b5 b6 b7 b8 b9 b10 b11 b12 b13 μ Q J122) : xW x (xRm dM, RX0, cX0_hoped, 14, (some .int), fun _ _ => True) (xQi x Q) 203 [(0, .ref (x.2.2.1 + 232)), (1, iV p1), (5, iV b5), (6, iV b6), (7, iV b7), (8, iV b8), (9, iV b9), (10, iV b10), (11, iV b11), (12, iV b12), (13, iV b13)] [] μ := by
  refine x_ran (fun n0 => ?_)
  have h := h n0
  refine x_aload_n 0 rfl dX0_hoped_203 ?_
  refine x_getR (j := 0) (r := 39) ly232 (by decide) rfl rfl (by decide) inT0 fl_X0_18 dX0_hoped_204 ?_
  refine x_getI (j := 0) ly39 (by decide) rfl rfl (by decide) inT2 fl_X0_77 dX0_hoped_207 (fun r45 => ?_)
  refine x_iconst dX0_hoped_210 ?_
  refine x_icmple (tgt := 241) r45 ⟨by decide, by decide⟩ dX0_hoped_211 (by decide) (fun k46 => ?_) (fun k46 => ?_)
  · have h := h.1 k46
    refine x_iload 7 rfl dX0_hoped_241 ?_
    refine x_aload_n 0 rfl dX0_hoped_243 ?_
    refine x_getR (j := 0) (r := 39) ly232 (by decide) rfl rfl (by decide) inT0 fl_X0_18 dX0_hoped_244 ?_
    refine x_iload 8 rfl dX0_hoped_247 ?_
    obtain ⟨c47, h⟩ := h
    refine x_callVi (As := [iV b11]) (rest := [iV b10]) cal_X2_weightOf ins_X2_weightOf sel_X2_weightOf ly39 (by decide) rfl (xX2_weightOf x 39 b11 _ _ isHouse_39 c47 h) rfl ml_X0_104 (xRoom (show 1 + 1 ≤ dM by omega)) (Nat.le_of_ble_eq_true rfl) dX0_hoped_249 (fun r50 μ48 i51 n49 h => ?_)
    have h := h i51 n49
    refine x_iload 10 rfl dX0_hoped_252 ?_
    refine x_imul dX0_hoped_254 ?_
    refine x_iadd dX0_hoped_255 ?_
    refine x_istore [(10, iV (b10 + (r50 * b13))), (0, .ref (x.2.2.1 + 232)), (1, iV p1), (5, iV b5), (6, iV b6), (7, iV b7), (8, iV b8), (9, iV b9), (11, iV b11), (12, iV b12), (13, iV b13)] dX0_hoped_256 (show 10 < 14 by decide) rfl ?_
    refine x_iinc 8 rfl [(11, iV (b11 + 1)), (10, iV (b10 + (r50 * b13))), (0, .ref (x.2.2.1 + 232)), (1, iV p1), (5, iV b5), (6, iV b6), (7, iV b7), (8, iV b8), (9, iV b9), (12, iV b12), (13, iV b13)] dX0_hoped_258 (show 11 < 14 by decide) rfl ?_
    refine x_goto (tgt := 122) dX0_hoped_261 (by decide) ?_
    exact x_sub [2, 3, 4, 5, 6, 7, 8, 1, 0] rfl (hJ122 _ _ _ h)
  · have h := h.2 k46
    refine x_iload 3 rfl dX0_hoped_214 ?_
    refine x_iload 4 rfl dX0_hoped_216 ?_
    obtain ⟨c52, h⟩ := h
    obtain ⟨c53, h⟩ := h
    refine x_icmpeq (tgt := 241) c52 c53 dX0_hoped_218 (by decide) (fun k54 => ?_) (fun k54 => ?_)
    · have h := h.1 k54
      refine x_iload 7 rfl dX0_hoped_241 ?_
      refine x_aload_n 0 rfl dX0_hoped_243 ?_
      refine x_getR (j := 0) (r := 39) ly232 (by decide) rfl rfl (by decide) inT0 fl_X0_18 dX0_hoped_244 ?_
      refine x_iload 8 rfl dX0_hoped_247 ?_
      obtain ⟨c55, h⟩ := h
      refine x_callVi (As := [iV b11]) (rest := [iV b10]) cal_X2_weightOf ins_X2_weightOf sel_X2_weightOf ly39 (by decide) rfl (xX2_weightOf x 39 b11 _ _ isHouse_39 c55 h) rfl ml_X0_104 (xRoom (show 1 + 1 ≤ dM by omega)) (Nat.le_of_ble_eq_true rfl) dX0_hoped_249 (fun r58 μ56 i59 n57 h => ?_)
      have h := h i59 n57
      refine x_iload 10 rfl dX0_hoped_252 ?_
      refine x_imul dX0_hoped_254 ?_
      refine x_iadd dX0_hoped_255 ?_
      refine x_istore [(10, iV (b10 + (r58 * b13))), (0, .ref (x.2.2.1 + 232)), (1, iV p1), (5, iV b5), (6, iV b6), (7, iV b7), (8, iV b8), (9, iV b9), (11, iV b11), (12, iV b12), (13, iV b13)] dX0_hoped_256 (show 10 < 14 by decide) rfl ?_
      refine x_iinc 8 rfl [(11, iV (b11 + 1)), (10, iV (b10 + (r58 * b13))), (0, .ref (x.2.2.1 + 232)), (1, iV p1), (5, iV b5), (6, iV b6), (7, iV b7), (8, iV b8), (9, iV b9), (12, iV b12), (13, iV b13)] dX0_hoped_258 (show 11 < 14 by decide) rfl ?_
      refine x_goto (tgt := 122) dX0_hoped_261 (by decide) ?_
      exact x_sub [2, 3, 4, 5, 6, 7, 8, 1, 0] rfl (hJ122 _ _ _ h)
    · have h := h.2 k54
      refine x_iload 10 rfl dX0_hoped_221 ?_
      refine x_aload_n 0 rfl dX0_hoped_223 ?_
      refine x_iload_n 1 rfl dX0_hoped_224 ?_
      refine x_iload 9 rfl dX0_hoped_225 ?_
      refine x_iload 3 rfl dX0_hoped_227 ?_
      refine x_iload 2 rfl dX0_hoped_229 ?_
      refine x_iload 4 rfl dX0_hoped_231 ?_
      obtain ⟨c60, h⟩ := h
      obtain ⟨c61, h⟩ := h
      refine x_callVi (As := [iV p1, iV b12, iV b6, iV b5, iV b7]) (rest := [iV b13]) cal_X0_hopedSeated ins_X0_hopedSeated sel_X0_hopedSeated ly232 (by decide) rfl (xX0_hopedSeated x F p1 b12 b6 b5 b7 _ _ hp1 c60 c52 c61 c53 dF hF (dM - 1) (by omega) (by omega) h) rfl ml_X0_100 (xRoom (show dM - 1 + 1 ≤ dM by omega)) (Nat.le_of_ble_eq_true rfl) dX0_hoped_233 (fun r64 μ62 i65 n63 h => ?_)
      have h := h i65 n63
      obtain ⟨c66, h⟩ := h
      refine x_max c66 i65 ml_X0_62 (xRoom1 (show 1 ≤ dM by omega)) (Nat.le_of_ble_eq_true rfl) dX0_hoped_236 ?_
      refine x_istore [(13, iV (max b13 r64)), (0, .ref (x.2.2.1 + 232)), (1, iV p1), (5, iV b5), (6, iV b6), (7, iV b7), (8, iV b8), (9, iV b9), (10, iV b10), (11, iV b11), (12, iV b12)] dX0_hoped_239 (show 13 < 14 by decide) rfl ?_
      refine x_iload 8 rfl dX0_hoped_241 ?_
      refine x_aload_n 1 rfl dX0_hoped_243 ?_
      refine x_getR (j := 0) (r := 39) ly232 (by decide) rfl rfl (by decide) inT0 fl_X0_18 dX0_hoped_244 ?_
      refine x_iload 9 rfl dX0_hoped_247 ?_
      obtain ⟨c67, h⟩ := h
      refine x_callVi (As := [iV b11]) (rest := [iV b10]) cal_X2_weightOf ins_X2_weightOf sel_X2_weightOf ly39 (by decide) rfl (xX2_weightOf x 39 b11 _ _ isHouse_39 c67 h) rfl ml_X0_104 (xRoom (show 1 + 1 ≤ dM by omega)) (Nat.le_of_ble_eq_true rfl) dX0_hoped_249 (fun r70 μ68 i71 n69 h => ?_)
      have h := h i71 n69
      refine x_iload 0 rfl dX0_hoped_252 ?_
      refine x_imul dX0_hoped_254 ?_
      refine x_iadd dX0_hoped_255 ?_
      refine x_istore [(10, iV (b10 + (r70 * (max b13 r64)))), (13, iV (max b13 r64)), (0, .ref (x.2.2.1 + 232)), (1, iV p1), (5, iV b5), (6, iV b6), (7, iV b7), (8, iV b8), (9, iV b9), (11, iV b11), (12, iV b12)] dX0_hoped_256 (show 10 < 14 by decide) rfl ?_
      refine x_iinc 9 rfl [(11, iV (b11 + 1)), (10, iV (b10 + (r70 * (max b13 r64)))), (13, iV (max b13 r64)), (0, .ref (x.2.2.1 + 232)), (1, iV p1), (5, iV b5), (6, iV b6), (7, iV b7), (8, iV b8), (9, iV b9), (12, iV b12)] dX0_hoped_258 (show 11 < 14 by decide) rfl ?_
      refine x_goto (tgt := 122) dX0_hoped_261 (by decide) ?_
      exact x_sub [3, 4, 5, 6, 7, 8, 9, 1, 0] rfl (hJ122 _ _ _ h)
set_option maxRecDepth 100000 in
set_option maxHeartbeats 4000000 in
theorem xX0_hoped_body (x : xX) (F : Int → Int → Int → Int → xM → (Int → xM → Prop) → Prop) (p1 : Int) (p2 : Int) (p3 : Int) (p4 : Int) (μ : xM) (Q : Int → xM → Prop) (hp1 : xIn p1) (hp2 : xIn p2) (hp3 : xIn p3) (hp4 : xIn p4) (dF : Nat) (hF : ∀ (q0 q1 q2 q3 : Int) (μ : xM) (Q : Int → xM → Prop), xIn q0 → xIn q1 → xIn q2 → xIn q3 → F q0 q1 q2 q3 μ Q → xMet x dF yX0_hoped cX0_hoped 14 (some .int) [.ref (x.2.2.1 + 232), iV q0, iV q1, iV q2, iV q3] μ (xQi x Q)) (dM : Nat) (hdM : 6 ≤ dM) (hdF : dF + 2 ≤ dM) (h : tX0_hoped_body F p1 p2 p3 p4 μ Q) : xMet x dM yX0_hoped cX0_hoped 14 (some .int) [.ref (x.2.2.1 + 232), iV p1, iV p2, iV p3, iV p4] μ (xQi x Q) := by
  refine xMet_of (by decide +kernel) (Nat.le_of_ble_eq_true rfl) ?_
  show xW x (xRm dM, RX0, cX0_hoped, 14, (some .int), fun _ _ => True) (xQi x Q) 0 [(0, .ref (x.2.2.1 + 232)), (1, iV p1), (2, iV p2), (3, iV p3), (4, iV p4)] [] μ
  refine x_ran (fun n0 => ?_)
  have h := h n0 hp1 hp2 hp3 hp4
  refine x_iload_n 2 rfl dX0_hoped_0 ?_
  refine x_iload_n 3 rfl dX0_hoped_1 ?_
  refine x_iload 4 rfl dX0_hoped_2 ?_
  refine x_min hp3 hp4 ml_X0_56 (xRoom1 (show 1 ≤ dM by omega)) (Nat.le_of_ble_eq_true rfl) dX0_hoped_4 ?_
  refine x_min hp2 (xmin_in hp3 hp4) ml_X0_56 (xRoom1 (show 1 ≤ dM by omega)) (Nat.le_of_ble_eq_true rfl) dX0_hoped_7 ?_
  refine x_istore [(5, iV (min p2 (min p3 p4))), (0, .ref (x.2.2.1 + 232)), (1, iV p1), (2, iV p2), (3, iV p3), (4, iV p4)] dX0_hoped_10 (show 5 < 14 by decide) rfl ?_
  refine x_iload_n 3 rfl dX0_hoped_12 ?_
  refine x_iload_n 4 rfl dX0_hoped_13 ?_
  refine x_iload 5 rfl dX0_hoped_14 ?_
  refine x_max hp3 hp4 ml_X0_62 (xRoom1 (show 1 ≤ dM by omega)) (Nat.le_of_ble_eq_true rfl) dX0_hoped_16 ?_
  refine x_max hp2 (xmax_in hp3 hp4) ml_X0_62 (xRoom1 (show 1 ≤ dM by omega)) (Nat.le_of_ble_eq_true rfl) dX0_hoped_19 ?_
  refine x_istore [(6, iV (max p2 (max p3 p4))), (5, iV (min p2 (min p3 p4))), (0, .ref (x.2.2.1 + 232)), (1, iV p1), (2, iV p2), (3, iV p3), (4, iV p4)] dX0_hoped_22 (show 6 < 14 by decide) rfl ?_
  refine x_iload_n 4 rfl dX0_hoped_24 ?_
  refine x_iload_n 5 rfl dX0_hoped_25 ?_
  refine x_iadd dX0_hoped_26 ?_
  refine x_iload 6 rfl dX0_hoped_27 ?_
  refine x_iadd dX0_hoped_29 ?_
  refine x_iload 1 rfl dX0_hoped_30 ?_
  refine x_isub dX0_hoped_32 ?_
  refine x_iload 0 rfl dX0_hoped_33 ?_
  refine x_isub dX0_hoped_35 ?_
  refine x_istore [(7, iV ((((p2 + p3) + p4) - (min p2 (min p3 p4))) - (max p2 (max p3 p4)))), (6, iV (max p2 (max p3 p4))), (5, iV (min p2 (min p3 p4))), (0, .ref (x.2.2.1 + 232)), (1, iV p1), (2, iV p2), (3, iV p3), (4, iV p4)] dX0_hoped_36 (show 7 < 14 by decide) rfl ?_
  refine x_iload_n 4 rfl dX0_hoped_38 ?_
  refine x_iconst dX0_hoped_39 ?_
  refine x_icmplt (tgt := 60) hp1 ⟨by decide, by decide⟩ dX0_hoped_40 (by decide) (fun k1 => ?_) (fun k1 => ?_)
  · have h := h.1 k1
    refine x_iconst dX0_hoped_60 ?_
    exact x_iret h ⟨by decide, by decide⟩ rfl dX0_hoped_61
  · have h := h.2 k1
    refine x_iload_n 4 rfl dX0_hoped_43 ?_
    refine x_iconst dX0_hoped_44 ?_
    refine x_icmpgt (tgt := 60) hp1 ⟨by decide, by decide⟩ dX0_hoped_45 (by decide) (fun k2 => ?_) (fun k2 => ?_)
    · have h := h.1 k2
      refine x_iconst dX0_hoped_60 ?_
      exact x_iret h ⟨by decide, by decide⟩ rfl dX0_hoped_61
    · have h := h.2 k2
      refine x_iload 2 rfl dX0_hoped_48 ?_
      refine x_iflt (tgt := 60) (xmin_in hp2 (xmin_in hp3 hp4))  dX0_hoped_50 (by decide) (fun k3 => ?_) (fun k3 => ?_)
      · have h := h.1 k3
        refine x_iconst dX0_hoped_60 ?_
        exact x_iret h ⟨by decide, by decide⟩ rfl dX0_hoped_61
      · have h := h.2 k3
        refine x_iload 1 rfl dX0_hoped_53 ?_
        refine x_bipush dX0_hoped_55 (by decide) ?_
        refine x_icmplt (tgt := 62) (xmax_in hp2 (xmax_in hp3 hp4)) ⟨by decide, by decide⟩ dX0_hoped_57 (by decide) (fun k4 => ?_) (fun k4 => ?_)
        · have h := h.1 k4
          refine x_iload_n 4 rfl dX0_hoped_62 ?_
          refine x_iconst dX0_hoped_63 ?_
          refine x_isub dX0_hoped_64 ?_
          refine x_sipush dX0_hoped_65 (by decide) ?_
          refine x_imul dX0_hoped_68 ?_
          refine x_iload 2 rfl dX0_hoped_69 ?_
          refine x_iload 0 rfl dX0_hoped_71 ?_
          refine x_iload 1 rfl dX0_hoped_73 ?_
          obtain ⟨c5, h⟩ := h
          refine x_callSi (As := [iV (min p2 (min p3 p4)), iV ((((p2 + p3) + p4) - (min p2 (min p3 p4))) - (max p2 (max p3 p4))), iV (max p2 (max p3 p4))]) (rest := [iV ((p1 - 1) * 2925)]) cal_X0_slotOf sta_X0_slotOf (xX0_slotOf x (min p2 (min p3 p4)) ((((p2 + p3) + p4) - (min p2 (min p3 p4))) - (max p2 (max p3 p4))) (max p2 (max p3 p4)) _ _ (xmin_in hp2 (xmin_in hp3 hp4)) c5 (xmax_in hp2 (xmax_in hp3 hp4)) h) rfl ml_X0_70 (xRoom (show 1 + 1 ≤ dM by omega)) (Nat.le_of_ble_eq_true rfl) dX0_hoped_75 (fun r8 μ6 i9 n7 h => ?_)
          have h := h i9 n7
          refine x_iadd dX0_hoped_78 ?_
          refine x_istore [(8, iV (((p1 - 1) * 2925) + r8)), (7, iV ((((p2 + p3) + p4) - (min p2 (min p3 p4))) - (max p2 (max p3 p4)))), (6, iV (max p2 (max p3 p4))), (5, iV (min p2 (min p3 p4))), (0, .ref (x.2.2.1 + 232)), (1, iV p1), (2, iV p2), (3, iV p3), (4, iV p4)] dX0_hoped_79 (show 8 < 14 by decide) rfl ?_
          refine x_aload_n 4 rfl dX0_hoped_81 ?_
          refine x_getR (j := 3) (r := 234) ly232 (by decide) rfl rfl (by decide) inT0 fl_X0_15 dX0_hoped_82 ?_
          refine x_iload 0 rfl dX0_hoped_85 ?_
          obtain ⟨c10, h⟩ := h
          refine x_iald ly234 c10.1 c10.2 (xIb (n := 11700) c10 (by decide)) (by decide) dX0_hoped_87 (fun r11 => ?_)
          refine x_ifle (tgt := 101) r11  dX0_hoped_88 (by decide) (fun k12 => ?_) (fun k12 => ?_)
          · have h := h.1 k12
            refine x_aload_n 4 rfl dX0_hoped_101 ?_
            refine x_iload_n 5 rfl dX0_hoped_102 ?_
            refine x_iconst dX0_hoped_103 ?_
            refine x_isub dX0_hoped_104 ?_
            refine x_iload 3 rfl dX0_hoped_105 ?_
            refine x_iload 1 rfl dX0_hoped_107 ?_
            refine x_iload 2 rfl dX0_hoped_109 ?_
            obtain ⟨c13, h⟩ := h
            refine x_callVi (As := [iV (p1 - 1), iV (min p2 (min p3 p4)), iV ((((p2 + p3) + p4) - (min p2 (min p3 p4))) - (max p2 (max p3 p4))), iV (max p2 (max p3 p4))]) (rest := []) cal_X0_hoped ins_X0_hoped sel_X0_hoped ly232 (by decide) rfl (hF (p1 - 1) (min p2 (min p3 p4)) ((((p2 + p3) + p4) - (min p2 (min p3 p4))) - (max p2 (max p3 p4))) (max p2 (max p3 p4)) _ _ c13 (xmin_in hp2 (xmin_in hp3 hp4)) c5 (xmax_in hp2 (xmax_in hp3 hp4)) h) rfl ml_X0_53 (xRoom (show dF + 1 ≤ dM by omega)) (Nat.le_of_ble_eq_true rfl) dX0_hoped_111 (fun r16 μ14 i17 n15 h => ?_)
            have h := h i17 n15
            refine x_istore [(9, iV r16), (8, iV (((p1 - 1) * 2925) + r8)), (7, iV ((((p2 + p3) + p4) - (min p2 (min p3 p4))) - (max p2 (max p3 p4)))), (6, iV (max p2 (max p3 p4))), (5, iV (min p2 (min p3 p4))), (0, .ref (x.2.2.1 + 232)), (1, iV p1), (2, iV p2), (3, iV p3), (4, iV p4)] dX0_hoped_114 (show 9 < 14 by decide) rfl ?_
            refine x_iconst dX0_hoped_116 ?_
            refine x_istore [(10, iV 0), (9, iV r16), (8, iV (((p1 - 1) * 2925) + r8)), (7, iV ((((p2 + p3) + p4) - (min p2 (min p3 p4))) - (max p2 (max p3 p4)))), (6, iV (max p2 (max p3 p4))), (5, iV (min p2 (min p3 p4))), (0, .ref (x.2.2.1 + 232)), (1, iV p1), (2, iV p2), (3, iV p3), (4, iV p4)] dX0_hoped_117 (show 10 < 14 by decide) rfl ?_
            refine x_iconst dX0_hoped_119 ?_
            refine x_istore [(11, iV 0), (10, iV 0), (9, iV r16), (8, iV (((p1 - 1) * 2925) + r8)), (7, iV ((((p2 + p3) + p4) - (min p2 (min p3 p4))) - (max p2 (max p3 p4)))), (6, iV (max p2 (max p3 p4))), (5, iV (min p2 (min p3 p4))), (0, .ref (x.2.2.1 + 232)), (1, iV p1), (2, iV p2), (3, iV p3), (4, iV p4)] dX0_hoped_120 (show 11 < 14 by decide) rfl ?_
            refine x_sub [7, 8, 6, 5, 4, 3, 2, 1, 0] rfl ?_
            refine x_loop2 (fun l10_18 l11_19 => [(0, .ref (x.2.2.1 + 232)), (1, iV p1), (5, iV (min p2 (min p3 p4))), (6, iV (max p2 (max p3 p4))), (7, iV ((((p2 + p3) + p4) - (min p2 (min p3 p4))) - (max p2 (max p3 p4)))), (8, iV (((p1 - 1) * 2925) + r8)), (9, iV r16), (10, iV l10_18), (11, iV l11_19)]) h (fun J122 l10_18 l11_19 μ20 hJ122 h n21 => ?_)
            refine x_iload 8 rfl dX0_hoped_122 ?_
            refine x_aload_n 0 rfl dX0_hoped_124 ?_
            refine x_getR (j := 0) (r := 39) ly232 (by decide) rfl rfl (by decide) inT0 fl_X0_18 dX0_hoped_125 ?_
            refine x_getI (j := 5) ly39 (by decide) rfl rfl (by decide) inT2 fl_X0_94 dX0_hoped_128 (fun r22 => ?_)
            obtain ⟨c23, h⟩ := h
            refine x_icmpge (tgt := 264) c23 r22 dX0_hoped_131 (by decide) (fun k24 => ?_) (fun k24 => ?_)
            · have h := h.1 k24
              refine x_aload_n 0 rfl dX0_hoped_264 ?_
              refine x_getR (j := 3) (r := 234) ly232 (by decide) rfl rfl (by decide) inT0 fl_X0_15 dX0_hoped_265 ?_
              refine x_iload 5 rfl dX0_hoped_268 ?_
              refine x_iload 7 rfl dX0_hoped_270 ?_
              refine x_iconst dX0_hoped_272 ?_
              refine x_iadd dX0_hoped_273 ?_
              obtain ⟨c25, h⟩ := h
              obtain ⟨c26, h⟩ := h
              refine x_iast ly234 c25.1 c25.2 (xIb (n := 11700) c25 (by decide)) c26 (by decide) dX0_hoped_274 (fun μ27 e29 n28 => ?_)
              have h := h μ27 e29 n28
              refine x_aload_n 0 rfl dX0_hoped_275 ?_
              refine x_iconst dX0_hoped_276 ?_
              refine x_putZ (j := 5) ly232 (by decide) rfl rfl (by decide) inT0 fl_X0_36 tyX0 tyX0_ok nmX0 rfl (Or.inr rfl) (by decide +kernel) dX0_hoped_277 (fun μ30 e32 n31 => ?_)
              have h := h μ30 e32 n31
              refine x_iload 7 rfl dX0_hoped_280 ?_
              obtain ⟨c33, h⟩ := h
              exact x_iret h c33 rfl dX0_hoped_282
            · have h := h.2 k24
              refine x_aload_n 0 rfl dX0_hoped_134 ?_
              refine x_getR (j := 0) (r := 39) ly232 (by decide) rfl rfl (by decide) inT0 fl_X0_18 dX0_hoped_135 ?_
              refine x_iload 8 rfl dX0_hoped_138 ?_
              refine x_callVi (As := [iV l11_19]) (rest := []) cal_X2_likelyOf ins_X2_likelyOf sel_X2_likelyOf ly39 (by decide) rfl (xX2_likelyOf x 39 l11_19 _ _ isHouse_39 c23 h) rfl ml_X0_97 (xRoom (show 1 + 1 ≤ dM by omega)) (Nat.le_of_ble_eq_true rfl) dX0_hoped_140 (fun r36 μ34 i37 n35 h => ?_)
              have h := h i37 n35
              refine x_istore [(12, iV r36), (0, .ref (x.2.2.1 + 232)), (1, iV p1), (5, iV (min p2 (min p3 p4))), (6, iV (max p2 (max p3 p4))), (7, iV ((((p2 + p3) + p4) - (min p2 (min p3 p4))) - (max p2 (max p3 p4)))), (8, iV (((p1 - 1) * 2925) + r8)), (9, iV r16), (10, iV l10_18), (11, iV l11_19)] dX0_hoped_143 (show 12 < 14 by decide) rfl ?_
              refine x_iload 7 rfl dX0_hoped_145 ?_
              refine x_aload_n 1 rfl dX0_hoped_147 ?_
              refine x_iload_n 2 rfl dX0_hoped_148 ?_
              refine x_iload 0 rfl dX0_hoped_149 ?_
              refine x_iload 3 rfl dX0_hoped_151 ?_
              refine x_iload 5 rfl dX0_hoped_153 ?_
              refine x_iload 4 rfl dX0_hoped_155 ?_
              obtain ⟨c38, h⟩ := h
              refine x_callVi (As := [iV p1, iV r36, iV (min p2 (min p3 p4)), iV ((((p2 + p3) + p4) - (min p2 (min p3 p4))) - (max p2 (max p3 p4))), iV (max p2 (max p3 p4))]) (rest := [iV r16]) cal_X0_hopedSeated ins_X0_hopedSeated sel_X0_hopedSeated ly232 (by decide) rfl (xX0_hopedSeated x F p1 r36 (min p2 (min p3 p4)) ((((p2 + p3) + p4) - (min p2 (min p3 p4))) - (max p2 (max p3 p4))) (max p2 (max p3 p4)) _ _ hp1 i37 (xmin_in hp2 (xmin_in hp3 hp4)) c38 (xmax_in hp2 (xmax_in hp3 hp4)) dF hF (dM - 1) (by omega) (by omega) h) rfl ml_X0_100 (xRoom (show dM - 1 + 1 ≤ dM by omega)) (Nat.le_of_ble_eq_true rfl) dX0_hoped_157 (fun r41 μ39 i42 n40 h => ?_)
              have h := h i42 n40
              refine x_max i17 i42 ml_X0_62 (xRoom1 (show 1 ≤ dM by omega)) (Nat.le_of_ble_eq_true rfl) dX0_hoped_160 ?_
              refine x_istore [(13, iV (max r16 r41)), (12, iV r36), (0, .ref (x.2.2.1 + 232)), (1, iV p1), (5, iV (min p2 (min p3 p4))), (6, iV (max p2 (max p3 p4))), (7, iV ((((p2 + p3) + p4) - (min p2 (min p3 p4))) - (max p2 (max p3 p4)))), (8, iV (((p1 - 1) * 2925) + r8)), (9, iV r16), (10, iV l10_18), (11, iV l11_19)] dX0_hoped_163 (show 13 < 14 by decide) rfl ?_
              refine x_aload_n 2 rfl dX0_hoped_165 ?_
              refine x_getR (j := 0) (r := 39) ly232 (by decide) rfl rfl (by decide) inT0 fl_X0_18 dX0_hoped_166 ?_
              refine x_getI (j := 0) ly39 (by decide) rfl rfl (by decide) inT2 fl_X0_77 dX0_hoped_169 (fun r43 => ?_)
              refine x_iconst dX0_hoped_172 ?_
              refine x_icmple (tgt := 203) r43 ⟨by decide, by decide⟩ dX0_hoped_173 (by decide) (fun k44 => ?_) (fun k44 => ?_)
              · have h := h.1 k44
                exact x_sub [2, 3, 4, 5, 6, 7, 8, 9, 10, 1, 0] rfl (xX0_hoped_b203 x F p1 p2 p3 p4 (min p2 (min p3 p4)) (max p2 (max p3 p4)) ((((p2 + p3) + p4) - (min p2 (min p3 p4))) - (max p2 (max p3 p4))) (((p1 - 1) * 2925) + r8) r16 l10_18 l11_19 r36 (max r16 r41) μ39 Q J122 hp1 hp2 hp3 hp4 dF hF dM hdM hdF hJ122 h)
              · have h := h.2 k44
                refine x_iload 6 rfl dX0_hoped_176 ?_
                refine x_iload 4 rfl dX0_hoped_178 ?_
                refine x_icmpeq (tgt := 203) c38 (xmin_in hp2 (xmin_in hp3 hp4)) dX0_hoped_180 (by decide) (fun k72 => ?_) (fun k72 => ?_)
                · have h := h.1 k72
                  exact x_sub [2, 3, 4, 5, 6, 7, 8, 9, 10, 1, 0] rfl (xX0_hoped_b203 x F p1 p2 p3 p4 (min p2 (min p3 p4)) (max p2 (max p3 p4)) ((((p2 + p3) + p4) - (min p2 (min p3 p4))) - (max p2 (max p3 p4))) (((p1 - 1) * 2925) + r8) r16 l10_18 l11_19 r36 (max r16 r41) μ39 Q J122 hp1 hp2 hp3 hp4 dF hF dM hdM hdF hJ122 h)
                · have h := h.2 k72
                  refine x_iload 0 rfl dX0_hoped_183 ?_
                  refine x_aload_n 2 rfl dX0_hoped_185 ?_
                  refine x_iload_n 3 rfl dX0_hoped_186 ?_
                  refine x_iload 1 rfl dX0_hoped_187 ?_
                  refine x_iload 6 rfl dX0_hoped_189 ?_
                  refine x_iload 4 rfl dX0_hoped_191 ?_
                  refine x_iload 5 rfl dX0_hoped_193 ?_
                  refine x_callVi (As := [iV p1, iV r36, iV ((((p2 + p3) + p4) - (min p2 (min p3 p4))) - (max p2 (max p3 p4))), iV (min p2 (min p3 p4)), iV (max p2 (max p3 p4))]) (rest := [iV (max r16 r41)]) cal_X0_hopedSeated ins_X0_hopedSeated sel_X0_hopedSeated ly232 (by decide) rfl (xX0_hopedSeated x F p1 r36 ((((p2 + p3) + p4) - (min p2 (min p3 p4))) - (max p2 (max p3 p4))) (min p2 (min p3 p4)) (max p2 (max p3 p4)) _ _ hp1 i37 c38 (xmin_in hp2 (xmin_in hp3 hp4)) (xmax_in hp2 (xmax_in hp3 hp4)) dF hF (dM - 1) (by omega) (by omega) h) rfl ml_X0_100 (xRoom (show dM - 1 + 1 ≤ dM by omega)) (Nat.le_of_ble_eq_true rfl) dX0_hoped_195 (fun r75 μ73 i76 n74 h => ?_)
                  have h := h i76 n74
                  refine x_max (xmax_in i17 i42) i76 ml_X0_62 (xRoom1 (show 1 ≤ dM by omega)) (Nat.le_of_ble_eq_true rfl) dX0_hoped_198 ?_
                  refine x_istore [(13, iV (max (max r16 r41) r75)), (12, iV r36), (0, .ref (x.2.2.1 + 232)), (1, iV p1), (5, iV (min p2 (min p3 p4))), (6, iV (max p2 (max p3 p4))), (7, iV ((((p2 + p3) + p4) - (min p2 (min p3 p4))) - (max p2 (max p3 p4)))), (8, iV (((p1 - 1) * 2925) + r8)), (9, iV r16), (10, iV l10_18), (11, iV l11_19)] dX0_hoped_201 (show 13 < 14 by decide) rfl ?_
                  exact x_sub [2, 3, 4, 5, 6, 7, 8, 9, 10, 1, 0] rfl (xX0_hoped_b203 x F p1 p2 p3 p4 (min p2 (min p3 p4)) (max p2 (max p3 p4)) ((((p2 + p3) + p4) - (min p2 (min p3 p4))) - (max p2 (max p3 p4))) (((p1 - 1) * 2925) + r8) r16 l10_18 l11_19 r36 (max (max r16 r41) r75) μ73 Q J122 hp1 hp2 hp3 hp4 dF hF dM hdM hdF hJ122 h)
          · have h := h.2 k12
            refine x_aload_n 4 rfl dX0_hoped_91 ?_
            refine x_getR (j := 3) (r := 234) ly232 (by decide) rfl rfl (by decide) inT0 fl_X0_15 dX0_hoped_92 ?_
            refine x_iload 0 rfl dX0_hoped_95 ?_
            refine x_iald ly234 c10.1 c10.2 (xIb (n := 11700) c10 (by decide)) (by decide) dX0_hoped_97 (fun r77 => ?_)
            refine x_iconst dX0_hoped_98 ?_
            refine x_isub dX0_hoped_99 ?_
            obtain ⟨c78, h⟩ := h
            exact x_iret h c78 rfl dX0_hoped_100
        · have h := h.2 k4
          refine x_iconst dX0_hoped_60 ?_
          exact x_iret h ⟨by decide, by decide⟩ rfl dX0_hoped_61
theorem xX0_hoped (x : xX) : ∀ (n : Nat) (p1 : Int) (p2 : Int) (p3 : Int) (p4 : Int) (μ : xM) (Q : Int → xM → Prop) (hp1 : xIn p1) (hp2 : xIn p2) (hp3 : xIn p3) (hp4 : xIn p4) (h : tX0_hoped n p1 p2 p3 p4 μ Q), xMet x (6 + 2 * n) yX0_hoped cX0_hoped 14 (some .int) [.ref (x.2.2.1 + 232), iV p1, iV p2, iV p3, iV p4] μ (xQi x Q)
  | 0, _, _, _, _, _, _, _, _, _, _, h => h.elim
  | n + 1, p1, p2, p3, p4, μ, Q, hp1, hp2, hp3, hp4, h => xX0_hoped_body x (tX0_hoped n) p1 p2 p3 p4 μ Q hp1 hp2 hp3 hp4 (6 + 2 * n) (fun p11 p21 p31 p41 μ Q hp11 hp21 hp31 hp41 h => xX0_hoped x n p11 p21 p31 p41 μ Q hp11 hp21 hp31 hp41 h) (6 + 2 * (n + 1)) (by omega) (by omega) h
set_option maxRecDepth 100000 in
set_option maxHeartbeats 4000000 in
theorem xX0_hopeFrom (x : xX) (p1 : Nat) (p2 : Int) (μ : xM) (Q : Int → xM → Prop) (hp1 : isNight p1) (hp2 : xIn p2) (h : tX0_hopeFrom p1 p2 μ Q) : xMet x 23 yX0_hopeFrom cX0_hopeFrom 3 (some .int) [.ref (x.2.2.1 + 232), .ref (x.2.2.1 + p1), iV p2] μ (xQi x Q) := by
  refine xMet_of (by decide +kernel) (Nat.le_of_ble_eq_true rfl) ?_
  show xW x (xRm 23, RX0, cX0_hopeFrom, 3, (some .int), fun _ _ => True) (xQi x Q) 0 [(0, .ref (x.2.2.1 + 232)), (1, .ref (x.2.2.1 + p1)), (2, iV p2)] [] μ
  refine x_ran (fun n0 => ?_)
  have h := h n0 hp2
  refine x_aload_n 0 rfl dX0_hopeFrom_0 ?_
  refine x_iload_n 2 rfl dX0_hopeFrom_1 ?_
  refine x_aload_n 1 rfl dX0_hopeFrom_2 ?_
  refine x_iconst dX0_hopeFrom_3 ?_
  refine x_callVi (As := [iV 0]) (rest := [iV p2, .ref (x.2.2.1 + 232)]) cal_X4_at ins_X4_at sel_X4_at hp1.1 (by have := hp1.2.1; omega) rfl (xX4_at x p1 0 _ _ hp1 ⟨by decide, by decide⟩ h) rfl ml_X0_49 (xRoom (Nat.le_of_ble_eq_true rfl)) (Nat.le_of_ble_eq_true rfl) dX0_hopeFrom_4 (fun r3 μ1 i4 n2 h => ?_)
  have h := h i4 n2
  refine x_aload_n 1 rfl dX0_hopeFrom_7 ?_
  refine x_iconst dX0_hopeFrom_8 ?_
  refine x_callVi (As := [iV 1]) (rest := [iV r3, iV p2, .ref (x.2.2.1 + 232)]) cal_X4_at ins_X4_at sel_X4_at hp1.1 (by have := hp1.2.1; omega) rfl (xX4_at x p1 1 _ _ hp1 ⟨by decide, by decide⟩ h) rfl ml_X0_49 (xRoom (Nat.le_of_ble_eq_true rfl)) (Nat.le_of_ble_eq_true rfl) dX0_hopeFrom_9 (fun r7 μ5 i8 n6 h => ?_)
  have h := h i8 n6
  refine x_aload_n 1 rfl dX0_hopeFrom_12 ?_
  refine x_iconst dX0_hopeFrom_13 ?_
  refine x_callVi (As := [iV 2]) (rest := [iV r7, iV r3, iV p2, .ref (x.2.2.1 + 232)]) cal_X4_at ins_X4_at sel_X4_at hp1.1 (by have := hp1.2.1; omega) rfl (xX4_at x p1 2 _ _ hp1 ⟨by decide, by decide⟩ h) rfl ml_X0_49 (xRoom (Nat.le_of_ble_eq_true rfl)) (Nat.le_of_ble_eq_true rfl) dX0_hopeFrom_14 (fun r11 μ9 i12 n10 h => ?_)
  have h := h i12 n10
  refine x_callVi (As := [iV p2, iV r3, iV r7, iV r11]) (rest := []) cal_X0_hoped ins_X0_hoped sel_X0_hoped ly232 (by decide) rfl (xX0_hoped x 8 p2 r3 r7 r11 _ _ hp2 i4 i8 i12 h) rfl ml_X0_53 (xRoom (Nat.le_of_ble_eq_true rfl)) (Nat.le_of_ble_eq_true rfl) dX0_hopeFrom_17 (fun r15 μ13 i16 n14 h => ?_)
  have h := h i16 n14
  exact x_iret h i16 rfl dX0_hopeFrom_20
set_option maxRecDepth 100000 in
set_option maxHeartbeats 4000000 in
theorem xX2_isWord (x : xX) (o : Nat) (p1 : Int) (μ : xM) (Q : Int → xM → Prop) (ho : isHouse o) (hp1 : xIn p1) (h : tX2_isWord o p1 μ Q) : xMet x 1 yX2_isWord cX2_isWord 2 (some .boolean) [.ref (x.2.2.1 + o), iV p1] μ (xQz x Q) := by
  refine xMet_of (by decide +kernel) (Nat.le_of_ble_eq_true rfl) ?_
  show xW x (xRm 1, RX2, cX2_isWord, 2, (some .boolean), fun _ _ => True) (xQz x Q) 0 [(0, .ref (x.2.2.1 + o)), (1, iV p1)] [] μ
  refine x_ran (fun n0 => ?_)
  have h := h n0 hp1
  refine x_iload_n 1 rfl dX2_isWord_0 ?_
  refine x_iflt (tgt := 22) hp1  dX2_isWord_1 (by decide) (fun k1 => ?_) (fun k1 => ?_)
  · have h := h.1 k1
    refine x_iconst dX2_isWord_22 ?_
    exact x_zret h (Or.inl rfl) rfl dX2_isWord_23
  · have h := h.2 k1
    refine x_iload_n 1 rfl dX2_isWord_4 ?_
    refine x_aload_n 0 rfl dX2_isWord_5 ?_
    refine x_getI (j := 3) ho.1 (by have := ho.2.1; omega) rfl rfl (by decide) inT2 fl_X2_55 dX2_isWord_6 (fun r2 => ?_)
    refine x_icmpge (tgt := 22) hp1 r2 dX2_isWord_9 (by decide) (fun k3 => ?_) (fun k3 => ?_)
    · have h := h.1 k3
      refine x_iconst dX2_isWord_22 ?_
      exact x_zret h (Or.inl rfl) rfl dX2_isWord_23
    · have h := h.2 k3
      refine x_iload_n 1 rfl dX2_isWord_12 ?_
      refine x_bipush dX2_isWord_13 (by decide) ?_
      refine x_icmpge (tgt := 22) hp1 ⟨by decide, by decide⟩ dX2_isWord_15 (by decide) (fun k4 => ?_) (fun k4 => ?_)
      · have h := h.1 k4
        refine x_iconst dX2_isWord_22 ?_
        exact x_zret h (Or.inl rfl) rfl dX2_isWord_23
      · have h := h.2 k4
        refine x_iconst dX2_isWord_18 ?_
        refine x_goto (tgt := 23) dX2_isWord_19 (by decide) ?_
        exact x_zret h (Or.inr rfl) rfl dX2_isWord_23
set_option maxRecDepth 100000 in
set_option maxHeartbeats 4000000 in
theorem xX2_lengthOf (x : xX) (o : Nat) (p1 : Int) (μ : xM) (Q : Int → xM → Prop) (ho : isHouse o) (hp1 : xIn p1) (h : tX2_lengthOf o p1 μ Q) : xMet x 2 yX2_lengthOf cX2_lengthOf 2 (some .int) [.ref (x.2.2.1 + o), iV p1] μ (xQi x Q) := by
  refine xMet_of (by decide +kernel) (Nat.le_of_ble_eq_true rfl) ?_
  show xW x (xRm 2, RX2, cX2_lengthOf, 2, (some .int), fun _ _ => True) (xQi x Q) 0 [(0, .ref (x.2.2.1 + o)), (1, iV p1)] [] μ
  refine x_ran (fun n0 => ?_)
  have h := h n0 hp1
  refine x_aload_n 0 rfl dX2_lengthOf_0 ?_
  refine x_iload_n 1 rfl dX2_lengthOf_1 ?_
  refine x_callVz (As := [iV p1]) (rest := []) cal_X2_isWord ins_X2_isWord sel_X2_isWord ho.1 (by have := ho.2.1; omega) rfl (xX2_isWord x o p1 _ _ ho hp1 h) rfl ml_X2_73 (xRoom (Nat.le_of_ble_eq_true rfl)) (Nat.le_of_ble_eq_true rfl) dX2_lengthOf_2 (fun r3 μ1 i4 n2 h => ?_)
  have h := h i4 n2
  refine x_ifeq (tgt := 17) (xIz i4)  dX2_lengthOf_5 (by decide) (fun k5 => ?_) (fun k5 => ?_)
  · have h := h.1 k5
    refine x_iconst dX2_lengthOf_17 ?_
    exact x_iret h ⟨by decide, by decide⟩ rfl dX2_lengthOf_18
  · have h := h.2 (xz1 i4 k5)
    refine x_aload_n 0 rfl dX2_lengthOf_8 ?_
    refine x_getR (j := 7) (r := o + 1) ho.1 (by have := ho.2.1; omega) rfl rfl (by decide) inT2 fl_X2_9 dX2_lengthOf_9 ?_
    refine x_iload_n 1 rfl dX2_lengthOf_12 ?_
    obtain ⟨c6, h⟩ := h
    refine x_iald ho.2.2.1 c6.1 c6.2 hp1 (by have := ho.2.1; omega) dX2_lengthOf_13 (fun r7 => ?_)
    refine x_goto (tgt := 18) dX2_lengthOf_14 (by decide) ?_
    exact x_iret h r7 rfl dX2_lengthOf_18
set_option maxRecDepth 100000 in
set_option maxHeartbeats 4000000 in
theorem xX2_glyphOf (x : xX) (o : Nat) (p1 : Int) (p2 : Int) (μ : xM) (Q : Int → xM → Prop) (ho : isHouse o) (hp1 : xIn p1) (hp2 : xIn p2) (h : tX2_glyphOf o p1 p2 μ Q) : xMet x 2 yX2_glyphOf cX2_glyphOf 3 (some .int) [.ref (x.2.2.1 + o), iV p1, iV p2] μ (xQi x Q) := by
  refine xMet_of (by decide +kernel) (Nat.le_of_ble_eq_true rfl) ?_
  show xW x (xRm 2, RX2, cX2_glyphOf, 3, (some .int), fun _ _ => True) (xQi x Q) 0 [(0, .ref (x.2.2.1 + o)), (1, iV p1), (2, iV p2)] [] μ
  refine x_ran (fun n0 => ?_)
  have h := h n0 hp1 hp2
  refine x_aload_n 0 rfl dX2_glyphOf_0 ?_
  refine x_iload_n 1 rfl dX2_glyphOf_1 ?_
  refine x_callVz (As := [iV p1]) (rest := []) cal_X2_isWord ins_X2_isWord sel_X2_isWord ho.1 (by have := ho.2.1; omega) rfl (xX2_isWord x o p1 _ _ ho hp1 h) rfl ml_X2_73 (xRoom (Nat.le_of_ble_eq_true rfl)) (Nat.le_of_ble_eq_true rfl) dX2_glyphOf_2 (fun r3 μ1 i4 n2 h => ?_)
  have h := h i4 n2
  refine x_ifeq (tgt := 29) (xIz i4)  dX2_glyphOf_5 (by decide) (fun k5 => ?_) (fun k5 => ?_)
  · have h := h.1 k5
    refine x_iconst dX2_glyphOf_29 ?_
    exact x_iret h ⟨by decide, by decide⟩ rfl dX2_glyphOf_30
  · have h := h.2 (xz1 i4 k5)
    refine x_iload_n 2 rfl dX2_glyphOf_8 ?_
    refine x_iflt (tgt := 29) hp2  dX2_glyphOf_9 (by decide) (fun k6 => ?_) (fun k6 => ?_)
    · have h := h.1 k6
      refine x_iconst dX2_glyphOf_29 ?_
      exact x_iret h ⟨by decide, by decide⟩ rfl dX2_glyphOf_30
    · have h := h.2 k6
      refine x_iload_n 2 rfl dX2_glyphOf_12 ?_
      refine x_bipush dX2_glyphOf_13 (by decide) ?_
      refine x_icmpge (tgt := 29) hp2 ⟨by decide, by decide⟩ dX2_glyphOf_15 (by decide) (fun k7 => ?_) (fun k7 => ?_)
      · have h := h.1 k7
        refine x_iconst dX2_glyphOf_29 ?_
        exact x_iret h ⟨by decide, by decide⟩ rfl dX2_glyphOf_30
      · have h := h.2 k7
        refine x_aload_n 0 rfl dX2_glyphOf_18 ?_
        refine x_getR (j := 9) (r := o + 3) ho.1 (by have := ho.2.1; omega) rfl rfl (by decide) inT2 fl_X2_20 dX2_glyphOf_19 ?_
        refine x_iload_n 1 rfl dX2_glyphOf_22 ?_
        obtain ⟨c8, h⟩ := h
        refine x_aaldI ho.2.2.2.2.1 c8.1 c8.2 hp1 (by have := ho.2.1; omega) dX2_glyphOf_23 ?_
        refine x_iload_n 2 rfl dX2_glyphOf_24 ?_
        obtain ⟨c9, h⟩ := h
        refine x_iald (ho.2.2.2.2.2.1 p1.toNat (by omega)) c9.1 c9.2 hp2 (by have := ho.2.1; omega) dX2_glyphOf_25 (fun r10 => ?_)
        refine x_goto (tgt := 30) dX2_glyphOf_26 (by decide) ?_
        exact x_iret h r10 rfl dX2_glyphOf_30
set_option maxRecDepth 100000 in
set_option maxHeartbeats 4000000 in
theorem xX1_isWithout (x : xX) (p1 : Int) (p2 : Int) (p3 : Int) (μ : xM) (Q : Int → xM → Prop) (hp1 : xIn p1) (hp2 : xIn p2) (hp3 : xIn p3) (h : tX1_isWithout p1 p2 p3 μ Q) : xMet x 3 yX1_isWithout cX1_isWithout 5 (some .boolean) [.ref (x.2.2.1 + 73), iV p1, iV p2, iV p3] μ (xQz x Q) := by
  refine xMet_of (by decide +kernel) (Nat.le_of_ble_eq_true rfl) ?_
  show xW x (xRm 3, RX1, cX1_isWithout, 5, (some .boolean), fun _ _ => True) (xQz x Q) 0 [(0, .ref (x.2.2.1 + 73)), (1, iV p1), (2, iV p2), (3, iV p3)] [] μ
  refine x_ran (fun n0 => ?_)
  have h := h n0 hp1 hp2 hp3
  refine x_iconst dX1_isWithout_0 ?_
  refine x_istore [(4, iV 0), (0, .ref (x.2.2.1 + 73)), (1, iV p1), (2, iV p2), (3, iV p3)] dX1_isWithout_1 (show 4 < 5 by decide) rfl ?_
  refine x_sub [1, 2, 3, 4, 0] rfl ?_
  refine x_loop1 (fun l4_1 => [(0, .ref (x.2.2.1 + 73)), (1, iV p1), (2, iV p2), (3, iV p3), (4, iV l4_1)]) h (fun J3 l4_1 μ2 hJ3 h n3 => ?_)
  refine x_iload 4 rfl dX1_isWithout_3 ?_
  refine x_aload_n 0 rfl dX1_isWithout_5 ?_
  refine x_getR (j := 0) (r := 39) ly73 (by decide) rfl rfl (by decide) inT1 fl_X1_44 dX1_isWithout_6 ?_
  refine x_iload_n 3 rfl dX1_isWithout_9 ?_
  refine x_callVi (As := [iV p3]) (rest := [iV l4_1]) cal_X2_lengthOf ins_X2_lengthOf sel_X2_lengthOf ly39 (by decide) rfl (xX2_lengthOf x 39 p3 _ _ isHouse_39 hp3 h) rfl ml_X1_52 (xRoom (Nat.le_of_ble_eq_true rfl)) (Nat.le_of_ble_eq_true rfl) dX1_isWithout_10 (fun r6 μ4 i7 n5 h => ?_)
  have h := h i7 n5
  obtain ⟨c8, h⟩ := h
  refine x_icmpge (tgt := 60) c8 i7 dX1_isWithout_13 (by decide) (fun k9 => ?_) (fun k9 => ?_)
  · have h := h.1 k9
    refine x_iconst dX1_isWithout_60 ?_
    exact x_zret h (Or.inr rfl) rfl dX1_isWithout_61
  · have h := h.2 k9
    refine x_aload_n 0 rfl dX1_isWithout_16 ?_
    refine x_getR (j := 0) (r := 39) ly73 (by decide) rfl rfl (by decide) inT1 fl_X1_44 dX1_isWithout_17 ?_
    refine x_iload_n 3 rfl dX1_isWithout_20 ?_
    refine x_iload 4 rfl dX1_isWithout_21 ?_
    refine x_callVi (As := [iV p3, iV l4_1]) (rest := []) cal_X2_glyphOf ins_X2_glyphOf sel_X2_glyphOf ly39 (by decide) rfl (xX2_glyphOf x 39 p3 l4_1 _ _ isHouse_39 hp3 c8 h) rfl ml_X1_58 (xRoom (Nat.le_of_ble_eq_true rfl)) (Nat.le_of_ble_eq_true rfl) dX1_isWithout_23 (fun r12 μ10 i13 n11 h => ?_)
    have h := h i13 n11
    refine x_aload_n 0 rfl dX1_isWithout_26 ?_
    refine x_getR (j := 0) (r := 39) ly73 (by decide) rfl rfl (by decide) inT1 fl_X1_44 dX1_isWithout_27 ?_
    refine x_iload_n 1 rfl dX1_isWithout_30 ?_
    refine x_iload 4 rfl dX1_isWithout_31 ?_
    refine x_iload_n 2 rfl dX1_isWithout_33 ?_
    refine x_icmpge (tgt := 42) c8 hp2 dX1_isWithout_34 (by decide) (fun k14 => ?_) (fun k14 => ?_)
    · have h := h.1 k14
      refine x_iload 4 rfl dX1_isWithout_42 ?_
      refine x_iconst dX1_isWithout_44 ?_
      refine x_iadd dX1_isWithout_45 ?_
      obtain ⟨c15, h⟩ := h
      refine x_callVi (As := [iV p1, iV (l4_1 + 1)]) (rest := [iV r12]) cal_X2_glyphOf ins_X2_glyphOf sel_X2_glyphOf ly39 (by decide) rfl (xX2_glyphOf x 39 p1 (l4_1 + 1) _ _ isHouse_39 hp1 c15 h) rfl ml_X1_58 (xRoom (Nat.le_of_ble_eq_true rfl)) (Nat.le_of_ble_eq_true rfl) dX1_isWithout_46 (fun r18 μ16 i19 n17 h => ?_)
      have h := h i19 n17
      refine x_icmpeq (tgt := 54) i13 i19 dX1_isWithout_49 (by decide) (fun k20 => ?_) (fun k20 => ?_)
      · have h := h.1 k20
        refine x_iinc 4 rfl [(4, iV (l4_1 + 1)), (0, .ref (x.2.2.1 + 73)), (1, iV p1), (2, iV p2), (3, iV p3)] dX1_isWithout_54 (show 4 < 5 by decide) rfl ?_
        refine x_goto (tgt := 3) dX1_isWithout_57 (by decide) ?_
        exact x_sub [1, 2, 3, 4, 0] rfl (hJ3 _ _ h)
      · have h := h.2 k20
        refine x_iconst dX1_isWithout_52 ?_
        exact x_zret h (Or.inl rfl) rfl dX1_isWithout_53
    · have h := h.2 k14
      refine x_iload 4 rfl dX1_isWithout_37 ?_
      refine x_goto (tgt := 46) dX1_isWithout_39 (by decide) ?_
      refine x_callVi (As := [iV p1, iV l4_1]) (rest := [iV r12]) cal_X2_glyphOf ins_X2_glyphOf sel_X2_glyphOf ly39 (by decide) rfl (xX2_glyphOf x 39 p1 l4_1 _ _ isHouse_39 hp1 c8 h) rfl ml_X1_58 (xRoom (Nat.le_of_ble_eq_true rfl)) (Nat.le_of_ble_eq_true rfl) dX1_isWithout_46 (fun r23 μ21 i24 n22 h => ?_)
      have h := h i24 n22
      refine x_icmpeq (tgt := 54) i13 i24 dX1_isWithout_49 (by decide) (fun k25 => ?_) (fun k25 => ?_)
      · have h := h.1 k25
        refine x_iinc 4 rfl [(4, iV (l4_1 + 1)), (0, .ref (x.2.2.1 + 73)), (1, iV p1), (2, iV p2), (3, iV p3)] dX1_isWithout_54 (show 4 < 5 by decide) rfl ?_
        refine x_goto (tgt := 3) dX1_isWithout_57 (by decide) ?_
        exact x_sub [1, 2, 3, 4, 0] rfl (hJ3 _ _ h)
      · have h := h.2 k25
        refine x_iconst dX1_isWithout_52 ?_
        exact x_zret h (Or.inl rfl) rfl dX1_isWithout_53
set_option maxRecDepth 100000 in
set_option maxHeartbeats 4000000 in
theorem xX1_letterBetween_b76 (x : xX) (p1 : Int) (p2 : Int) (b3 : Int) (b4 : Int) (s0 : Int) (μ : xM) (Q : Int → xM → Prop) (J33 : Int → xM → Prop) (hp1 : xIn p1) (hp2 : xIn p2)  (hJ33 : ∀ (c4 : Int) (ν : xM), J33 c4 ν → xW x (xRm 4, RX1, cX1_letterBetween, 6, (some .int), fun _ _ => True) (xQi x Q) 33 [(0, .ref (x.2.2.1 + 73)), (1, iV p1), (2, iV p2), (3, iV b3), (4, iV c4)] [] ν) (h : tX1_letterBetween_b76 p1 p2 b3 b4 s0 μ Q J33) : xW x (xRm 4, RX1, cX1_letterBetween, 6, (some .int), fun _ _ => True) (xQi x Q) 76 [(0, .ref (x.2.2.1 + 73)), (1, iV p1), (2, iV p2), (3, iV b3), (4, iV b4)] [iV s0] μ := by
  refine x_ran (fun n0 => ?_)
  have h := h n0
  refine x_istore [(5, iV s0), (0, .ref (x.2.2.1 + 73)), (1, iV p1), (2, iV p2), (3, iV b3), (4, iV b4)] dX1_letterBetween_76 (show 5 < 6 by decide) rfl ?_
  refine x_iload 0 rfl dX1_letterBetween_78 ?_
  obtain ⟨c18, h⟩ := h
  refine x_ifeq (tgt := 105) c18  dX1_letterBetween_80 (by decide) (fun k19 => ?_) (fun k19 => ?_)
  · have h := h.1 k19
    refine x_iinc 5 rfl [(4, iV (b4 + 1)), (5, iV s0), (0, .ref (x.2.2.1 + 73)), (1, iV p1), (2, iV p2), (3, iV b3)] dX1_letterBetween_105 (show 4 < 6 by decide) rfl ?_
    refine x_goto (tgt := 33) dX1_letterBetween_108 (by decide) ?_
    exact x_sub [2, 3, 4, 5, 0] rfl (hJ33 _ _ h)
  · have h := h.2 k19
    refine x_aload_n 1 rfl dX1_letterBetween_83 ?_
    refine x_iload_n 3 rfl dX1_letterBetween_84 ?_
    refine x_iload 5 rfl dX1_letterBetween_85 ?_
    refine x_iload_n 2 rfl dX1_letterBetween_87 ?_
    obtain ⟨c20, h⟩ := h
    refine x_callVz (As := [iV p2, iV b4, iV p1]) (rest := []) cal_X1_isWithout ins_X1_isWithout sel_X1_isWithout ly73 (by decide) rfl (xX1_isWithout x p2 b4 p1 _ _ hp2 c20 hp1 h) rfl ml_X1_68 (xRoom (Nat.le_of_ble_eq_true rfl)) (Nat.le_of_ble_eq_true rfl) dX1_letterBetween_88 (fun r23 μ21 i24 n22 h => ?_)
    have h := h i24 n22
    refine x_ifeq (tgt := 105) (xIz i24)  dX1_letterBetween_91 (by decide) (fun k25 => ?_) (fun k25 => ?_)
    · have h := h.1 k25
      refine x_iinc 5 rfl [(4, iV (b4 + 1)), (5, iV s0), (0, .ref (x.2.2.1 + 73)), (1, iV p1), (2, iV p2), (3, iV b3)] dX1_letterBetween_105 (show 4 < 6 by decide) rfl ?_
      refine x_goto (tgt := 33) dX1_letterBetween_108 (by decide) ?_
      exact x_sub [2, 3, 4, 5, 0] rfl (hJ33 _ _ h)
    · have h := h.2 (xz1 i24 k25)
      refine x_aload_n 1 rfl dX1_letterBetween_94 ?_
      refine x_getR (j := 0) (r := 39) ly73 (by decide) rfl rfl (by decide) inT1 fl_X1_44 dX1_letterBetween_95 ?_
      refine x_iload_n 3 rfl dX1_letterBetween_98 ?_
      refine x_iload 5 rfl dX1_letterBetween_99 ?_
      refine x_callVi (As := [iV p2, iV b4]) (rest := []) cal_X2_glyphOf ins_X2_glyphOf sel_X2_glyphOf ly39 (by decide) rfl (xX2_glyphOf x 39 p2 b4 _ _ isHouse_39 hp2 c20 h) rfl ml_X1_58 (xRoom (Nat.le_of_ble_eq_true rfl)) (Nat.le_of_ble_eq_true rfl) dX1_letterBetween_101 (fun r28 μ26 i29 n27 h => ?_)
      have h := h i29 n27
      exact x_iret h i29 rfl dX1_letterBetween_104
set_option maxRecDepth 100000 in
set_option maxHeartbeats 4000000 in
theorem xX1_letterBetween_b71 (x : xX) (p1 : Int) (p2 : Int) (b3 : Int) (b4 : Int) (μ : xM) (Q : Int → xM → Prop) (J33 : Int → xM → Prop) (hp1 : xIn p1) (hp2 : xIn p2)  (hJ33 : ∀ (c4 : Int) (ν : xM), J33 c4 ν → xW x (xRm 4, RX1, cX1_letterBetween, 6, (some .int), fun _ _ => True) (xQi x Q) 33 [(0, .ref (x.2.2.1 + 73)), (1, iV p1), (2, iV p2), (3, iV b3), (4, iV c4)] [] ν) (h : tX1_letterBetween_b71 p1 p2 b3 b4 μ Q J33) : xW x (xRm 4, RX1, cX1_letterBetween, 6, (some .int), fun _ _ => True) (xQi x Q) 71 [(0, .ref (x.2.2.1 + 73)), (1, iV p1), (2, iV p2), (3, iV b3), (4, iV b4)] [] μ := by
  refine x_ran (fun n0 => ?_)
  have h := h n0
  refine x_iconst dX1_letterBetween_71 ?_
  refine x_goto (tgt := 76) dX1_letterBetween_72 (by decide) ?_
  exact x_sub [0, 1, 2, 3, 4] rfl (xX1_letterBetween_b76 x p1 p2 b3 b4 1 μ Q J33 hp1 hp2 hJ33 h)
set_option maxRecDepth 100000 in
set_option maxHeartbeats 4000000 in
theorem xX1_letterBetween_b75 (x : xX) (p1 : Int) (p2 : Int) (b3 : Int) (b4 : Int) (μ : xM) (Q : Int → xM → Prop) (J33 : Int → xM → Prop) (hp1 : xIn p1) (hp2 : xIn p2)  (hJ33 : ∀ (c4 : Int) (ν : xM), J33 c4 ν → xW x (xRm 4, RX1, cX1_letterBetween, 6, (some .int), fun _ _ => True) (xQi x Q) 33 [(0, .ref (x.2.2.1 + 73)), (1, iV p1), (2, iV p2), (3, iV b3), (4, iV c4)] [] ν) (h : tX1_letterBetween_b75 p1 p2 b3 b4 μ Q J33) : xW x (xRm 4, RX1, cX1_letterBetween, 6, (some .int), fun _ _ => True) (xQi x Q) 75 [(0, .ref (x.2.2.1 + 73)), (1, iV p1), (2, iV p2), (3, iV b3), (4, iV b4)] [] μ := by
  refine x_ran (fun n0 => ?_)
  have h := h n0
  refine x_iconst dX1_letterBetween_75 ?_
  exact x_sub [0, 1, 2, 3, 4] rfl (xX1_letterBetween_b76 x p1 p2 b3 b4 0 μ Q J33 hp1 hp2 hJ33 h)
set_option maxRecDepth 100000 in
set_option maxHeartbeats 4000000 in
theorem xX1_letterBetween (x : xX) (p1 : Int) (p2 : Int) (μ : xM) (Q : Int → xM → Prop) (hp1 : xIn p1) (hp2 : xIn p2) (h : tX1_letterBetween p1 p2 μ Q) : xMet x 4 yX1_letterBetween cX1_letterBetween 6 (some .int) [.ref (x.2.2.1 + 73), iV p1, iV p2] μ (xQi x Q) := by
  refine xMet_of (by decide +kernel) (Nat.le_of_ble_eq_true rfl) ?_
  show xW x (xRm 4, RX1, cX1_letterBetween, 6, (some .int), fun _ _ => True) (xQi x Q) 0 [(0, .ref (x.2.2.1 + 73)), (1, iV p1), (2, iV p2)] [] μ
  refine x_ran (fun n0 => ?_)
  have h := h n0 hp1 hp2
  refine x_aload_n 0 rfl dX1_letterBetween_0 ?_
  refine x_getR (j := 0) (r := 39) ly73 (by decide) rfl rfl (by decide) inT1 fl_X1_44 dX1_letterBetween_1 ?_
  refine x_iload_n 1 rfl dX1_letterBetween_4 ?_
  refine x_callVi (As := [iV p1]) (rest := []) cal_X2_lengthOf ins_X2_lengthOf sel_X2_lengthOf ly39 (by decide) rfl (xX2_lengthOf x 39 p1 _ _ isHouse_39 hp1 h) rfl ml_X1_52 (xRoom (Nat.le_of_ble_eq_true rfl)) (Nat.le_of_ble_eq_true rfl) dX1_letterBetween_5 (fun r3 μ1 i4 n2 h => ?_)
  have h := h i4 n2
  refine x_istore_n [(3, iV r3), (0, .ref (x.2.2.1 + 73)), (1, iV p1), (2, iV p2)] dX1_letterBetween_8 (show 3 < 6 by decide) rfl ?_
  refine x_iload_n 0 rfl dX1_letterBetween_9 ?_
  refine x_iconst dX1_letterBetween_10 ?_
  refine x_icmplt (tgt := 28) i4 ⟨by decide, by decide⟩ dX1_letterBetween_11 (by decide) (fun k5 => ?_) (fun k5 => ?_)
  · have h := h.1 k5
    refine x_iconst dX1_letterBetween_28 ?_
    exact x_iret h ⟨by decide, by decide⟩ rfl dX1_letterBetween_29
  · have h := h.2 k5
    refine x_aload_n 1 rfl dX1_letterBetween_14 ?_
    refine x_getR (j := 0) (r := 39) ly73 (by decide) rfl rfl (by decide) inT1 fl_X1_44 dX1_letterBetween_15 ?_
    refine x_iload_n 3 rfl dX1_letterBetween_18 ?_
    refine x_callVi (As := [iV p2]) (rest := []) cal_X2_lengthOf ins_X2_lengthOf sel_X2_lengthOf ly39 (by decide) rfl (xX2_lengthOf x 39 p2 _ _ isHouse_39 hp2 h) rfl ml_X1_52 (xRoom (Nat.le_of_ble_eq_true rfl)) (Nat.le_of_ble_eq_true rfl) dX1_letterBetween_19 (fun r8 μ6 i9 n7 h => ?_)
    have h := h i9 n7
    refine x_iload_n 0 rfl dX1_letterBetween_22 ?_
    refine x_iconst dX1_letterBetween_23 ?_
    refine x_iadd dX1_letterBetween_24 ?_
    obtain ⟨c10, h⟩ := h
    refine x_icmpeq (tgt := 30) i9 c10 dX1_letterBetween_25 (by decide) (fun k11 => ?_) (fun k11 => ?_)
    · have h := h.1 k11
      refine x_iconst dX1_letterBetween_30 ?_
      refine x_istore [(4, iV 0), (3, iV r3), (0, .ref (x.2.2.1 + 73)), (1, iV p1), (2, iV p2)] dX1_letterBetween_31 (show 4 < 6 by decide) rfl ?_
      refine x_sub [2, 3, 4, 1, 0] rfl ?_
      refine x_loop1 (fun l4_12 => [(0, .ref (x.2.2.1 + 73)), (1, iV p1), (2, iV p2), (3, iV r3), (4, iV l4_12)]) h (fun J33 l4_12 μ13 hJ33 h n14 => ?_)
      refine x_iload 4 rfl dX1_letterBetween_33 ?_
      refine x_iload_n 3 rfl dX1_letterBetween_35 ?_
      obtain ⟨c15, h⟩ := h
      refine x_icmpgt (tgt := 111) c15 i4 dX1_letterBetween_36 (by decide) (fun k16 => ?_) (fun k16 => ?_)
      · have h := h.1 k16
        refine x_iconst dX1_letterBetween_111 ?_
        exact x_iret h ⟨by decide, by decide⟩ rfl dX1_letterBetween_112
      · have h := h.2 k16
        refine x_iload 4 rfl dX1_letterBetween_39 ?_
        refine x_iload_n 3 rfl dX1_letterBetween_41 ?_
        refine x_icmpeq (tgt := 71) c15 i4 dX1_letterBetween_42 (by decide) (fun k17 => ?_) (fun k17 => ?_)
        · have h := h.1 k17
          exact x_sub [0, 1, 2, 3, 4] rfl (xX1_letterBetween_b71 x p1 p2 r3 l4_12 μ13 Q J33 hp1 hp2 hJ33 h)
        · have h := h.2 k17
          refine x_aload_n 0 rfl dX1_letterBetween_45 ?_
          refine x_getR (j := 0) (r := 39) ly73 (by decide) rfl rfl (by decide) inT1 fl_X1_44 dX1_letterBetween_46 ?_
          refine x_getI (j := 2) ly39 (by decide) rfl rfl (by decide) inT2 fl_X1_64 dX1_letterBetween_49 (fun r30 => ?_)
          refine x_ifeq (tgt := 71) r30  dX1_letterBetween_52 (by decide) (fun k31 => ?_) (fun k31 => ?_)
          · have h := h.1 k31
            exact x_sub [0, 1, 2, 3, 4] rfl (xX1_letterBetween_b71 x p1 p2 r3 l4_12 μ13 Q J33 hp1 hp2 hJ33 h)
          · have h := h.2 k31
            refine x_iload 4 rfl dX1_letterBetween_55 ?_
            refine x_ifne (tgt := 75) c15  dX1_letterBetween_57 (by decide) (fun k32 => ?_) (fun k32 => ?_)
            · have h := h.1 k32
              exact x_sub [0, 1, 2, 3, 4] rfl (xX1_letterBetween_b75 x p1 p2 r3 l4_12 μ13 Q J33 hp1 hp2 hJ33 h)
            · have h := h.2 k32
              refine x_aload_n 0 rfl dX1_letterBetween_60 ?_
              refine x_getR (j := 0) (r := 39) ly73 (by decide) rfl rfl (by decide) inT1 fl_X1_44 dX1_letterBetween_61 ?_
              refine x_getI (j := 2) ly39 (by decide) rfl rfl (by decide) inT2 fl_X1_64 dX1_letterBetween_64 (fun r33 => ?_)
              refine x_iconst dX1_letterBetween_67 ?_
              refine x_icmpne (tgt := 75) r33 ⟨by decide, by decide⟩ dX1_letterBetween_68 (by decide) (fun k34 => ?_) (fun k34 => ?_)
              · have h := h.1 k34
                exact x_sub [0, 1, 2, 3, 4] rfl (xX1_letterBetween_b75 x p1 p2 r3 l4_12 μ13 Q J33 hp1 hp2 hJ33 h)
              · have h := h.2 k34
                exact x_sub [0, 1, 2, 3, 4] rfl (xX1_letterBetween_b71 x p1 p2 r3 l4_12 μ13 Q J33 hp1 hp2 hJ33 h)
    · have h := h.2 k11
      refine x_iconst dX1_letterBetween_28 ?_
      exact x_iret h ⟨by decide, by decide⟩ rfl dX1_letterBetween_29
set_option maxRecDepth 100000 in
set_option maxHeartbeats 4000000 in
theorem xX2_isGood (x : xX) (o : Nat) (p1 : Int) (μ : xM) (Q : Int → xM → Prop) (ho : isHouse o) (hp1 : xIn p1) (h : tX2_isGood o p1 μ Q) : xMet x 2 yX2_isGood cX2_isGood 2 (some .boolean) [.ref (x.2.2.1 + o), iV p1] μ (xQz x Q) := by
  refine xMet_of (by decide +kernel) (Nat.le_of_ble_eq_true rfl) ?_
  show xW x (xRm 2, RX2, cX2_isGood, 2, (some .boolean), fun _ _ => True) (xQz x Q) 0 [(0, .ref (x.2.2.1 + o)), (1, iV p1)] [] μ
  refine x_ran (fun n0 => ?_)
  have h := h n0 hp1
  refine x_aload_n 0 rfl dX2_isGood_0 ?_
  refine x_iload_n 1 rfl dX2_isGood_1 ?_
  refine x_callVz (As := [iV p1]) (rest := []) cal_X2_isWord ins_X2_isWord sel_X2_isWord ho.1 (by have := ho.2.1; omega) rfl (xX2_isWord x o p1 _ _ ho hp1 h) rfl ml_X2_73 (xRoom (Nat.le_of_ble_eq_true rfl)) (Nat.le_of_ble_eq_true rfl) dX2_isGood_2 (fun r3 μ1 i4 n2 h => ?_)
  have h := h i4 n2
  refine x_ifeq (tgt := 34) (xIz i4)  dX2_isGood_5 (by decide) (fun k5 => ?_) (fun k5 => ?_)
  · have h := h.1 k5
    refine x_iconst dX2_isGood_34 ?_
    exact x_zret h (Or.inl rfl) rfl dX2_isGood_35
  · have h := h.2 (xz1 i4 k5)
    refine x_aload_n 0 rfl dX2_isGood_8 ?_
    refine x_getR (j := 10) (r := o + 29) ho.1 (by have := ho.2.1; omega) rfl rfl (by decide) inT2 fl_X2_23 dX2_isGood_9 ?_
    refine x_iload_n 1 rfl dX2_isGood_12 ?_
    obtain ⟨c6, h⟩ := h
    refine x_zald ho.2.2.2.2.2.2.1 c6.1 c6.2 hp1 (by have := ho.2.1; omega) dX2_isGood_13 (fun r7 => ?_)
    refine x_ifne (tgt := 34) r7  dX2_isGood_14 (by decide) (fun k8 => ?_) (fun k8 => ?_)
    · have h := h.1 k8
      refine x_iconst dX2_isGood_34 ?_
      exact x_zret h (Or.inl rfl) rfl dX2_isGood_35
    · have h := h.2 k8
      refine x_aload_n 0 rfl dX2_isGood_17 ?_
      refine x_getR (j := 7) (r := o + 1) ho.1 (by have := ho.2.1; omega) rfl rfl (by decide) inT2 fl_X2_9 dX2_isGood_18 ?_
      refine x_iload_n 1 rfl dX2_isGood_21 ?_
      refine x_iald ho.2.2.1 c6.1 c6.2 hp1 (by have := ho.2.1; omega) dX2_isGood_22 (fun r9 => ?_)
      refine x_aload_n 0 rfl dX2_isGood_23 ?_
      refine x_getI (j := 1) ho.1 (by have := ho.2.1; omega) rfl rfl (by decide) inT2 fl_X2_49 dX2_isGood_24 (fun r10 => ?_)
      refine x_icmpgt (tgt := 34) r9 r10 dX2_isGood_27 (by decide) (fun k11 => ?_) (fun k11 => ?_)
      · have h := h.1 k11
        refine x_iconst dX2_isGood_34 ?_
        exact x_zret h (Or.inl rfl) rfl dX2_isGood_35
      · have h := h.2 k11
        refine x_iconst dX2_isGood_30 ?_
        refine x_goto (tgt := 35) dX2_isGood_31 (by decide) ?_
        exact x_zret h (Or.inr rfl) rfl dX2_isGood_35
set_option maxRecDepth 100000 in
set_option maxHeartbeats 4000000 in
theorem xX1_link (x : xX) (p1 : Int) (p2 : Int) (μ : xM) (Q : xM → Prop) (hp1 : xIn p1) (hp2 : xIn p2) (h : tX1_link p1 p2 μ Q) : xMet x 1 yX1_link cX1_link 3 none [.ref (x.2.2.1 + 73), iV p1, iV p2] μ (xQv x Q) := by
  refine xMet_of (by decide +kernel) (Nat.le_of_ble_eq_true rfl) ?_
  show xW x (xRm 1, RX1, cX1_link, 3, none, fun _ _ => True) (xQv x Q) 0 [(0, .ref (x.2.2.1 + 73)), (1, iV p1), (2, iV p2)] [] μ
  refine x_ran (fun n0 => ?_)
  have h := h n0 hp1 hp2
  refine x_aload_n 0 rfl dX1_link_0 ?_
  refine x_getR (j := 5) (r := 178) ly73 (by decide) rfl rfl (by decide) inT1 fl_X1_25 dX1_link_1 ?_
  refine x_iload_n 1 rfl dX1_link_4 ?_
  obtain ⟨c1, h⟩ := h
  refine x_iald ly178 c1.1 c1.2 hp1 (by decide) dX1_link_5 (fun r2 => ?_)
  refine x_bipush dX1_link_6 (by decide) ?_
  refine x_icmpge (tgt := 91) r2 ⟨by decide, by decide⟩ dX1_link_8 (by decide) (fun k3 => ?_) (fun k3 => ?_)
  · have h := h.1 k3
    exact x_vret h rfl dX1_link_91
  · have h := h.2 k3
    refine x_aload_n 0 rfl dX1_link_11 ?_
    refine x_getR (j := 7) (r := 204) ly73 (by decide) rfl rfl (by decide) inT1 fl_X1_32 dX1_link_12 ?_
    refine x_iload_n 2 rfl dX1_link_15 ?_
    obtain ⟨c4, h⟩ := h
    refine x_iald ly204 c4.1 c4.2 hp2 (by decide) dX1_link_16 (fun r5 => ?_)
    refine x_bipush dX1_link_17 (by decide) ?_
    refine x_icmpge (tgt := 91) r5 ⟨by decide, by decide⟩ dX1_link_19 (by decide) (fun k6 => ?_) (fun k6 => ?_)
    · have h := h.1 k6
      exact x_vret h rfl dX1_link_91
    · have h := h.2 k6
      refine x_aload_n 0 rfl dX1_link_22 ?_
      refine x_getR (j := 3) (r := 126) ly73 (by decide) rfl rfl (by decide) inT1 fl_X1_19 dX1_link_23 ?_
      refine x_iload_n 1 rfl dX1_link_26 ?_
      refine x_aaldI ly126 c1.1 c1.2 hp1 (by decide) dX1_link_27 ?_
      refine x_aload_n 0 rfl dX1_link_28 ?_
      refine x_getR (j := 5) (r := 178) ly73 (by decide) rfl rfl (by decide) inT1 fl_X1_25 dX1_link_29 ?_
      refine x_iload_n 1 rfl dX1_link_32 ?_
      refine x_iald ly178 c1.1 c1.2 hp1 (by decide) dX1_link_33 (fun r7 => ?_)
      refine x_iload_n 2 rfl dX1_link_34 ?_
      obtain ⟨c8, h⟩ := h
      refine x_iast (lr126 p1.toNat (by omega)) c8.1 c8.2 r7 hp2 (by omega) dX1_link_35 (fun μ9 e11 n10 => ?_)
      have h := h μ9 e11 n10
      refine x_aload_n 0 rfl dX1_link_36 ?_
      refine x_getR (j := 4) (r := 152) ly73 (by decide) rfl rfl (by decide) inT1 fl_X1_22 dX1_link_37 ?_
      refine x_iload_n 1 rfl dX1_link_40 ?_
      refine x_aaldI ly152 c1.1 c1.2 hp1 (by decide) dX1_link_41 ?_
      refine x_aload_n 0 rfl dX1_link_42 ?_
      refine x_getR (j := 5) (r := 178) ly73 (by decide) rfl rfl (by decide) inT1 fl_X1_25 dX1_link_43 ?_
      refine x_iload_n 1 rfl dX1_link_46 ?_
      refine x_iald ly178 c1.1 c1.2 hp1 (by decide) dX1_link_47 (fun r12 => ?_)
      refine x_aload_n 0 rfl dX1_link_48 ?_
      refine x_getR (j := 2) (r := 100) ly73 (by decide) rfl rfl (by decide) inT1 fl_X1_16 dX1_link_49 ?_
      refine x_iload_n 1 rfl dX1_link_52 ?_
      refine x_aaldI ly100 c1.1 c1.2 hp1 (by decide) dX1_link_53 ?_
      refine x_iload_n 2 rfl dX1_link_54 ?_
      refine x_iald (lr100 p1.toNat (by omega)) c4.1 c4.2 hp2 (by omega) dX1_link_55 (fun r13 => ?_)
      obtain ⟨c14, h⟩ := h
      refine x_iast (lr152 p1.toNat (by omega)) c14.1 c14.2 r12 r13 (by omega) dX1_link_56 (fun μ15 e17 n16 => ?_)
      have h := h μ15 e17 n16
      refine x_aload_n 0 rfl dX1_link_57 ?_
      refine x_getR (j := 5) (r := 178) ly73 (by decide) rfl rfl (by decide) inT1 fl_X1_25 dX1_link_58 ?_
      refine x_iload_n 1 rfl dX1_link_61 ?_
      refine x_dup2 rfl rfl dX1_link_62 ?_
      refine x_iald ly178 c1.1 c1.2 hp1 (by decide) dX1_link_63 (fun r18 => ?_)
      refine x_iconst dX1_link_64 ?_
      refine x_iadd dX1_link_65 ?_
      obtain ⟨c19, h⟩ := h
      refine x_iast ly178 c1.1 c1.2 hp1 c19 (by decide) dX1_link_66 (fun μ20 e22 n21 => ?_)
      have h := h μ20 e22 n21
      refine x_aload_n 0 rfl dX1_link_67 ?_
      refine x_getR (j := 6) (r := 179) ly73 (by decide) rfl rfl (by decide) inT1 fl_X1_29 dX1_link_68 ?_
      refine x_iload_n 2 rfl dX1_link_71 ?_
      refine x_aaldI ly179 c4.1 c4.2 hp2 (by decide) dX1_link_72 ?_
      refine x_aload_n 0 rfl dX1_link_73 ?_
      refine x_getR (j := 7) (r := 204) ly73 (by decide) rfl rfl (by decide) inT1 fl_X1_32 dX1_link_74 ?_
      refine x_iload_n 2 rfl dX1_link_77 ?_
      refine x_iald ly204 c4.1 c4.2 hp2 (by decide) dX1_link_78 (fun r23 => ?_)
      refine x_iload_n 1 rfl dX1_link_79 ?_
      obtain ⟨c24, h⟩ := h
      refine x_iast (lr179 p2.toNat (by omega)) c24.1 c24.2 r23 hp1 (by omega) dX1_link_80 (fun μ25 e27 n26 => ?_)
      have h := h μ25 e27 n26
      refine x_aload_n 0 rfl dX1_link_81 ?_
      refine x_getR (j := 7) (r := 204) ly73 (by decide) rfl rfl (by decide) inT1 fl_X1_32 dX1_link_82 ?_
      refine x_iload_n 2 rfl dX1_link_85 ?_
      refine x_dup2 rfl rfl dX1_link_86 ?_
      refine x_iald ly204 c4.1 c4.2 hp2 (by decide) dX1_link_87 (fun r28 => ?_)
      refine x_iconst dX1_link_88 ?_
      refine x_iadd dX1_link_89 ?_
      obtain ⟨c29, h⟩ := h
      refine x_iast ly204 c4.1 c4.2 hp2 c29 (by decide) dX1_link_90 (fun μ30 e32 n31 => ?_)
      have h := h μ30 e32 n31
      exact x_vret h rfl dX1_link_91
set_option maxRecDepth 100000 in
set_option maxHeartbeats 4000000 in
theorem xX1_chainOf (x : xX) (p1 : Int) (μ : xM) (Q : Int → xM → Prop) (hp1 : xIn p1) (h : tX1_chainOf p1 μ Q) : xMet x 2 yX1_chainOf cX1_chainOf 2 (some .int) [.ref (x.2.2.1 + 73), iV p1] μ (xQi x Q) := by
  refine xMet_of (by decide +kernel) (Nat.le_of_ble_eq_true rfl) ?_
  show xW x (xRm 2, RX1, cX1_chainOf, 2, (some .int), fun _ _ => True) (xQi x Q) 0 [(0, .ref (x.2.2.1 + 73)), (1, iV p1)] [] μ
  refine x_ran (fun n0 => ?_)
  have h := h n0 hp1
  refine x_aload_n 0 rfl dX1_chainOf_0 ?_
  refine x_iload_n 1 rfl dX1_chainOf_1 ?_
  refine x_callVz (As := [iV p1]) (rest := []) cal_X1_isKind ins_X1_isKind sel_X1_isKind ly73 (by decide) rfl (xX1_isKind x p1 _ _ hp1 h) rfl ml_X1_113 (xRoom (Nat.le_of_ble_eq_true rfl)) (Nat.le_of_ble_eq_true rfl) dX1_chainOf_2 (fun r3 μ1 i4 n2 h => ?_)
  have h := h i4 n2
  refine x_ifeq (tgt := 17) (xIz i4)  dX1_chainOf_5 (by decide) (fun k5 => ?_) (fun k5 => ?_)
  · have h := h.1 k5
    refine x_iconst dX1_chainOf_17 ?_
    exact x_iret h ⟨by decide, by decide⟩ rfl dX1_chainOf_18
  · have h := h.2 (xz1 i4 k5)
    refine x_aload_n 0 rfl dX1_chainOf_8 ?_
    refine x_getR (j := 8) (r := 205) ly73 (by decide) rfl rfl (by decide) inT1 fl_X1_35 dX1_chainOf_9 ?_
    refine x_iload_n 1 rfl dX1_chainOf_12 ?_
    obtain ⟨c6, h⟩ := h
    refine x_iald ly205 c6.1 c6.2 hp1 (by decide) dX1_chainOf_13 (fun r7 => ?_)
    refine x_goto (tgt := 18) dX1_chainOf_14 (by decide) ?_
    exact x_iret h r7 rfl dX1_chainOf_18
set_option maxRecDepth 100000 in
set_option maxHeartbeats 4000000 in
theorem xX1_nimOf (x : xX) (p1 : Int) (μ : xM) (Q : Int → xM → Prop) (hp1 : xIn p1) (h : tX1_nimOf p1 μ Q) : xMet x 2 yX1_nimOf cX1_nimOf 2 (some .int) [.ref (x.2.2.1 + 73), iV p1] μ (xQi x Q) := by
  refine xMet_of (by decide +kernel) (Nat.le_of_ble_eq_true rfl) ?_
  show xW x (xRm 2, RX1, cX1_nimOf, 2, (some .int), fun _ _ => True) (xQi x Q) 0 [(0, .ref (x.2.2.1 + 73)), (1, iV p1)] [] μ
  refine x_ran (fun n0 => ?_)
  have h := h n0 hp1
  refine x_aload_n 0 rfl dX1_nimOf_0 ?_
  refine x_iload_n 1 rfl dX1_nimOf_1 ?_
  refine x_callVz (As := [iV p1]) (rest := []) cal_X1_isKind ins_X1_isKind sel_X1_isKind ly73 (by decide) rfl (xX1_isKind x p1 _ _ hp1 h) rfl ml_X1_113 (xRoom (Nat.le_of_ble_eq_true rfl)) (Nat.le_of_ble_eq_true rfl) dX1_nimOf_2 (fun r3 μ1 i4 n2 h => ?_)
  have h := h i4 n2
  refine x_ifeq (tgt := 17) (xIz i4)  dX1_nimOf_5 (by decide) (fun k5 => ?_) (fun k5 => ?_)
  · have h := h.1 k5
    refine x_iconst dX1_nimOf_17 ?_
    exact x_iret h ⟨by decide, by decide⟩ rfl dX1_nimOf_18
  · have h := h.2 (xz1 i4 k5)
    refine x_aload_n 0 rfl dX1_nimOf_8 ?_
    refine x_getR (j := 9) (r := 206) ly73 (by decide) rfl rfl (by decide) inT1 fl_X1_38 dX1_nimOf_9 ?_
    refine x_iload_n 1 rfl dX1_nimOf_12 ?_
    obtain ⟨c6, h⟩ := h
    refine x_iald ly206 c6.1 c6.2 hp1 (by decide) dX1_nimOf_13 (fun r7 => ?_)
    refine x_goto (tgt := 18) dX1_nimOf_14 (by decide) ?_
    exact x_iret h r7 rfl dX1_nimOf_18
set_option maxRecDepth 100000 in
set_option maxHeartbeats 4000000 in
theorem xX1_leastWithout (x : xX) (p1 : Int) (μ : xM) (Q : Int → xM → Prop) (hp1 : xIn p1) (h : tX1_leastWithout p1 μ Q) : xMet x 1 yX1_leastWithout cX1_leastWithout 2 (some .int) [iV p1] μ (xQi x Q) := by
  refine xMet_of (by decide +kernel) (Nat.le_of_ble_eq_true rfl) ?_
  show xW x (xRm 1, RX1, cX1_leastWithout, 2, (some .int), fun _ _ => True) (xQi x Q) 0 [(0, iV p1)] [] μ
  refine x_ran (fun n0 => ?_)
  have h := h n0 hp1
  refine x_iconst dX1_leastWithout_0 ?_
  refine x_istore_n [(1, iV 0), (0, iV p1)] dX1_leastWithout_1 (show 1 < 2 by decide) rfl ?_
  refine x_sub [1, 0] rfl ?_
  refine x_loop1 (fun l1_1 => [(0, iV p1), (1, iV l1_1)]) h (fun J2 l1_1 μ2 hJ2 h n3 => ?_)
  refine x_iload_n 1 rfl dX1_leastWithout_2 ?_
  refine x_bipush dX1_leastWithout_3 (by decide) ?_
  obtain ⟨c4, h⟩ := h
  refine x_icmpge (tgt := 23) c4 ⟨by decide, by decide⟩ dX1_leastWithout_5 (by decide) (fun k5 => ?_) (fun k5 => ?_)
  · have h := h.1 k5
    refine x_iload_n 1 rfl dX1_leastWithout_23 ?_
    exact x_iret h c4 rfl dX1_leastWithout_24
  · have h := h.2 k5
    refine x_iload_n 0 rfl dX1_leastWithout_8 ?_
    refine x_iload_n 1 rfl dX1_leastWithout_9 ?_
    refine x_ishr dX1_leastWithout_10 ?_
    refine x_iconst dX1_leastWithout_11 ?_
    refine x_iand dX1_leastWithout_12 ?_
    refine x_iconst dX1_leastWithout_13 ?_
    refine x_icmpne (tgt := 23) (xAnd_in _ _) ⟨by decide, by decide⟩ dX1_leastWithout_14 (by decide) (fun k6 => ?_) (fun k6 => ?_)
    · have h := h.1 k6
      refine x_iload_n 1 rfl dX1_leastWithout_23 ?_
      exact x_iret h c4 rfl dX1_leastWithout_24
    · have h := h.2 k6
      refine x_iinc 1 rfl [(1, iV (l1_1 + 1)), (0, iV p1)] dX1_leastWithout_17 (show 1 < 2 by decide) rfl ?_
      refine x_goto (tgt := 2) dX1_leastWithout_20 (by decide) ?_
      exact x_sub [1, 0] rfl (hJ2 _ _ h)
set_option maxRecDepth 100000 in
set_option maxHeartbeats 4000000 in
theorem xX1_lookUp (x : xX) (p1 : Int) (μ : xM) (Q : xM → Prop) (hp1 : xIn p1) (h : tX1_lookUp p1 μ Q) : xMet x 5 yX1_lookUp cX1_lookUp 6 none [.ref (x.2.2.1 + 73), iV p1] μ (xQv x Q) := by
  refine xMet_of (by decide +kernel) (Nat.le_of_ble_eq_true rfl) ?_
  show xW x (xRm 5, RX1, cX1_lookUp, 6, none, fun _ _ => True) (xQv x Q) 0 [(0, .ref (x.2.2.1 + 73)), (1, iV p1)] [] μ
  refine x_ran (fun n0 => ?_)
  have h := h n0 hp1
  refine x_iconst dX1_lookUp_0 ?_
  refine x_istore_n [(2, iV 0), (0, .ref (x.2.2.1 + 73)), (1, iV p1)] dX1_lookUp_1 (show 2 < 6 by decide) rfl ?_
  refine x_sub [1, 2, 0] rfl ?_
  refine x_loop1 (fun l2_1 => [(0, .ref (x.2.2.1 + 73)), (1, iV p1), (2, iV l2_1)]) h (fun J2 l2_1 μ2 hJ2 h n3 => ?_)
  refine x_iload_n 2 rfl dX1_lookUp_2 ?_
  refine x_bipush dX1_lookUp_3 (by decide) ?_
  obtain ⟨c4, h⟩ := h
  refine x_icmpge (tgt := 112) c4 ⟨by decide, by decide⟩ dX1_lookUp_5 (by decide) (fun k5 => ?_) (fun k5 => ?_)
  · have h := h.1 k5
    exact x_vret h rfl dX1_lookUp_112
  · have h := h.2 k5
    refine x_aload_n 0 rfl dX1_lookUp_8 ?_
    refine x_getR (j := 0) (r := 39) ly73 (by decide) rfl rfl (by decide) inT1 fl_X1_44 dX1_lookUp_9 ?_
    refine x_iload_n 2 rfl dX1_lookUp_12 ?_
    refine x_callVi (As := [iV l2_1]) (rest := []) cal_X2_lengthOf ins_X2_lengthOf sel_X2_lengthOf ly39 (by decide) rfl (xX2_lengthOf x 39 l2_1 _ _ isHouse_39 c4 h) rfl ml_X1_52 (xRoom (Nat.le_of_ble_eq_true rfl)) (Nat.le_of_ble_eq_true rfl) dX1_lookUp_13 (fun r8 μ6 i9 n7 h => ?_)
    have h := h i9 n7
    refine x_iload_n 1 rfl dX1_lookUp_16 ?_
    refine x_icmpeq (tgt := 23) i9 hp1 dX1_lookUp_17 (by decide) (fun k10 => ?_) (fun k10 => ?_)
    · have h := h.1 k10
      refine x_iconst dX1_lookUp_23 ?_
      refine x_istore_n [(3, iV 0), (0, .ref (x.2.2.1 + 73)), (1, iV p1), (2, iV l2_1)] dX1_lookUp_24 (show 3 < 6 by decide) rfl ?_
      refine x_iconst dX1_lookUp_25 ?_
      refine x_istore [(4, iV 0), (3, iV 0), (0, .ref (x.2.2.1 + 73)), (1, iV p1), (2, iV l2_1)] dX1_lookUp_26 (show 4 < 6 by decide) rfl ?_
      refine x_iconst dX1_lookUp_28 ?_
      refine x_istore [(5, iV 0), (4, iV 0), (3, iV 0), (0, .ref (x.2.2.1 + 73)), (1, iV p1), (2, iV l2_1)] dX1_lookUp_29 (show 5 < 6 by decide) rfl ?_
      refine x_sub [3, 4, 5, 2, 1, 0] rfl ?_
      refine x_loop3 (fun l3_11 l4_12 l5_13 => [(0, .ref (x.2.2.1 + 73)), (1, iV p1), (2, iV l2_1), (3, iV l3_11), (4, iV l4_12), (5, iV l5_13)]) h (fun J31 l3_11 l4_12 l5_13 μ14 hJ31 h n15 => ?_)
      refine x_iload 5 rfl dX1_lookUp_31 ?_
      refine x_aload_n 0 rfl dX1_lookUp_33 ?_
      refine x_getR (j := 5) (r := 178) ly73 (by decide) rfl rfl (by decide) inT1 fl_X1_25 dX1_lookUp_34 ?_
      refine x_iload_n 2 rfl dX1_lookUp_37 ?_
      obtain ⟨c16, h⟩ := h
      refine x_iald ly178 c16.1 c16.2 (xIb (n := 25) c16 (by decide)) (by decide) dX1_lookUp_38 (fun r17 => ?_)
      obtain ⟨c18, h⟩ := h
      refine x_icmpge (tgt := 88) c18 r17 dX1_lookUp_39 (by decide) (fun k19 => ?_) (fun k19 => ?_)
      · have h := h.1 k19
        refine x_aload_n 0 rfl dX1_lookUp_88 ?_
        refine x_getR (j := 8) (r := 205) ly73 (by decide) rfl rfl (by decide) inT1 fl_X1_35 dX1_lookUp_89 ?_
        refine x_iload_n 2 rfl dX1_lookUp_92 ?_
        refine x_iload_n 3 rfl dX1_lookUp_93 ?_
        obtain ⟨c20, h⟩ := h
        refine x_iast ly205 c16.1 c16.2 (xIb (n := 25) c16 (by decide)) c20 (by decide) dX1_lookUp_94 (fun μ21 e23 n22 => ?_)
        have h := h μ21 e23 n22
        refine x_aload_n 0 rfl dX1_lookUp_95 ?_
        refine x_getR (j := 9) (r := 206) ly73 (by decide) rfl rfl (by decide) inT1 fl_X1_38 dX1_lookUp_96 ?_
        refine x_iload_n 2 rfl dX1_lookUp_99 ?_
        refine x_iload 4 rfl dX1_lookUp_100 ?_
        obtain ⟨c24, h⟩ := h
        refine x_callSi (As := [iV l4_12]) (rest := [iV l2_1, .ref (x.2.2.1 + 206)]) cal_X1_leastWithout sta_X1_leastWithout (xX1_leastWithout x l4_12 _ _ c24 h) rfl ml_X1_104 (xRoom (Nat.le_of_ble_eq_true rfl)) (Nat.le_of_ble_eq_true rfl) dX1_lookUp_102 (fun r27 μ25 i28 n26 h => ?_)
        have h := h i28 n26
        refine x_iast ly206 c16.1 c16.2 (xIb (n := 25) c16 (by decide)) i28 (by decide) dX1_lookUp_105 (fun μ29 e31 n30 => ?_)
        have h := h μ29 e31 n30
        refine x_iinc 2 rfl [(2, iV (l2_1 + 1)), (0, .ref (x.2.2.1 + 73)), (1, iV p1), (3, iV l3_11), (4, iV l4_12), (5, iV l5_13)] dX1_lookUp_106 (show 2 < 6 by decide) rfl ?_
        refine x_goto (tgt := 2) dX1_lookUp_109 (by decide) ?_
        exact x_sub [1, 2, 0] rfl (hJ2 _ _ h)
      · have h := h.2 k19
        refine x_iload_n 3 rfl dX1_lookUp_42 ?_
        refine x_iconst dX1_lookUp_43 ?_
        refine x_aload_n 0 rfl dX1_lookUp_44 ?_
        refine x_aload_n 0 rfl dX1_lookUp_45 ?_
        refine x_getR (j := 3) (r := 126) ly73 (by decide) rfl rfl (by decide) inT1 fl_X1_19 dX1_lookUp_46 ?_
        refine x_iload_n 2 rfl dX1_lookUp_49 ?_
        refine x_aaldI ly126 c16.1 c16.2 (xIb (n := 25) c16 (by decide)) (by decide) dX1_lookUp_50 ?_
        refine x_iload 5 rfl dX1_lookUp_51 ?_
        obtain ⟨c32, h⟩ := h
        refine x_iald (lr126 l2_1.toNat (by omega)) c32.1 c32.2 (xIb (n := 24) c32 (by decide)) (by omega) dX1_lookUp_53 (fun r33 => ?_)
        refine x_callVi (As := [iV (μ14 (127 + l2_1.toNat) l5_13.toNat)]) (rest := [iV 1, iV l3_11]) cal_X1_chainOf ins_X1_chainOf sel_X1_chainOf ly73 (by decide) rfl (xX1_chainOf x (μ14 (127 + l2_1.toNat) l5_13.toNat) _ _ r33 h) rfl ml_X1_93 (xRoom (Nat.le_of_ble_eq_true rfl)) (Nat.le_of_ble_eq_true rfl) dX1_lookUp_54 (fun r36 μ34 i37 n35 h => ?_)
        have h := h i37 n35
        refine x_iadd dX1_lookUp_57 ?_
        obtain ⟨c38, h⟩ := h
        obtain ⟨c39, h⟩ := h
        refine x_max c38 c39 ml_X1_96 (xRoom1 (by decide)) (Nat.le_of_ble_eq_true rfl) dX1_lookUp_58 ?_
        refine x_istore_n [(3, iV (max l3_11 (1 + r36))), (0, .ref (x.2.2.1 + 73)), (1, iV p1), (2, iV l2_1), (4, iV l4_12), (5, iV l5_13)] dX1_lookUp_61 (show 3 < 6 by decide) rfl ?_
        refine x_iload 4 rfl dX1_lookUp_62 ?_
        refine x_iconst dX1_lookUp_64 ?_
        refine x_aload_n 1 rfl dX1_lookUp_65 ?_
        refine x_aload_n 1 rfl dX1_lookUp_66 ?_
        refine x_getR (j := 3) (r := 126) ly73 (by decide) rfl rfl (by decide) inT1 fl_X1_19 dX1_lookUp_67 ?_
        refine x_iload_n 3 rfl dX1_lookUp_70 ?_
        refine x_aaldI ly126 c16.1 c16.2 (xIb (n := 25) c16 (by decide)) (by decide) dX1_lookUp_71 ?_
        refine x_iload 5 rfl dX1_lookUp_72 ?_
        refine x_iald (lr126 l2_1.toNat (by omega)) c32.1 c32.2 (xIb (n := 24) c32 (by decide)) (by omega) dX1_lookUp_74 (fun r40 => ?_)
        refine x_callVi (As := [iV (μ34 (127 + l2_1.toNat) l5_13.toNat)]) (rest := [iV 1, iV l4_12]) cal_X1_nimOf ins_X1_nimOf sel_X1_nimOf ly73 (by decide) rfl (xX1_nimOf x (μ34 (127 + l2_1.toNat) l5_13.toNat) _ _ r40 h) rfl ml_X1_101 (xRoom (Nat.le_of_ble_eq_true rfl)) (Nat.le_of_ble_eq_true rfl) dX1_lookUp_75 (fun r43 μ41 i44 n42 h => ?_)
        have h := h i44 n42
        refine x_ishl dX1_lookUp_78 ?_
        refine x_ior dX1_lookUp_79 ?_
        refine x_istore [(4, iV (xOr l4_12 (xShl 1 r43))), (3, iV (max l3_11 (1 + r36))), (0, .ref (x.2.2.1 + 73)), (1, iV p1), (2, iV l2_1), (5, iV l5_13)] dX1_lookUp_80 (show 4 < 6 by decide) rfl ?_
        refine x_iinc 5 rfl [(5, iV (l5_13 + 1)), (4, iV (xOr l4_12 (xShl 1 r43))), (3, iV (max l3_11 (1 + r36))), (0, .ref (x.2.2.1 + 73)), (1, iV p1), (2, iV l2_1)] dX1_lookUp_82 (show 5 < 6 by decide) rfl ?_
        refine x_goto (tgt := 31) dX1_lookUp_85 (by decide) ?_
        exact x_sub [3, 4, 5, 2, 1, 0] rfl (hJ31 _ _ _ _ h)
    · have h := h.2 k10
      refine x_goto (tgt := 106) dX1_lookUp_20 (by decide) ?_
      refine x_iinc 2 rfl [(2, iV (l2_1 + 1)), (0, .ref (x.2.2.1 + 73)), (1, iV p1)] dX1_lookUp_106 (show 2 < 6 by decide) rfl ?_
      refine x_goto (tgt := 2) dX1_lookUp_109 (by decide) ?_
      exact x_sub [1, 2, 0] rfl (hJ2 _ _ h)
