set_option maxRecDepth 100000 in
set_option maxHeartbeats 4000000 in
theorem xX5_reads (x : xX) (p1 : Nat) (μ : xM) (Q : Int → xM → Prop) (hp1 : p1 < 13) (h : tX5_reads p1 μ Q) : xMet x 5 yX5_reads cX5_reads 3 (some .boolean) [.ref (x.2.2.1 + 35), .ref (x.2.2.2.1 p1)] μ (xQz x Q) := by
  refine xMet_of (by decide +kernel) (Nat.le_of_ble_eq_true rfl) ?_
  show xW x (xRm 5, RX5, cX5_reads, 3, (some .boolean), fun _ _ => True) (xQz x Q) 0 [(0, .ref (x.2.2.1 + 35)), (1, .ref (x.2.2.2.1 p1))] [] μ
  refine x_ran (fun n0 => ?_)
  have h := h n0 
  refine x_aload_n 0 rfl dX5_reads_0 ?_
  refine x_getI (j := 10) ly35 (by decide) rfl rfl (by decide) inT5 fl_X5_70 dX5_reads_1 (fun r1 => ?_)
  refine x_iconst dX5_reads_4 ?_
  refine x_icmpne (tgt := 24) r1 ⟨by decide, by decide⟩ dX5_reads_5 (by decide) (fun k2 => ?_) (fun k2 => ?_)
  · have h := h.1 k2
    refine x_iconst dX5_reads_24 ?_
    exact x_zret h (Or.inl rfl) rfl dX5_reads_25
  · have h := h.2 k2
    refine x_aload_n 0 rfl dX5_reads_8 ?_
    refine x_getI (j := 12) ly35 (by decide) rfl rfl (by decide) inT5 fl_X5_60 dX5_reads_9 (fun r3 => ?_)
    refine x_aload_n 0 rfl dX5_reads_12 ?_
    refine x_getI (j := 11) ly35 (by decide) rfl rfl (by decide) inT5 fl_X5_150 dX5_reads_13 (fun r4 => ?_)
    refine x_isub dX5_reads_16 ?_
    refine x_aload_n 1 rfl dX5_reads_17 ?_
    refine x_slen hp1 ml_X5_194 (xRoom (by decide)) (Nat.le_of_ble_eq_true rfl) dX5_reads_18 ?_
    obtain ⟨c5, h⟩ := h
    refine x_icmpeq (tgt := 26) c5 (sLen_in _) dX5_reads_21 (by decide) (fun k6 => ?_) (fun k6 => ?_)
    · have h := h.1 k6
      refine x_iconst dX5_reads_26 ?_
      refine x_istore_n [(2, iV 0), (0, .ref (x.2.2.1 + 35)), (1, .ref (x.2.2.2.1 p1))] dX5_reads_27 (show 2 < 3 by decide) rfl ?_
      refine x_sub [1, 2, 0] rfl ?_
      refine x_loop1 (fun l2_7 => [(0, .ref (x.2.2.1 + 35)), (1, .ref (x.2.2.2.1 p1)), (2, iV l2_7)]) h (fun J28 l2_7 μ8 hJ28 h n9 => ?_)
      refine x_iload_n 2 rfl dX5_reads_28 ?_
      refine x_aload_n 1 rfl dX5_reads_29 ?_
      refine x_slen hp1 ml_X5_194 (xRoom (by decide)) (Nat.le_of_ble_eq_true rfl) dX5_reads_30 ?_
      obtain ⟨c10, h⟩ := h
      refine x_icmpge (tgt := 62) c10 (sLen_in _) dX5_reads_33 (by decide) (fun k11 => ?_) (fun k11 => ?_)
      · have h := h.1 k11
        refine x_iconst dX5_reads_62 ?_
        exact x_zret h (Or.inr rfl) rfl dX5_reads_63
      · have h := h.2 k11
        refine x_aload_n 0 rfl dX5_reads_36 ?_
        refine x_aload_n 0 rfl dX5_reads_37 ?_
        refine x_getI (j := 11) ly35 (by decide) rfl rfl (by decide) inT5 fl_X5_150 dX5_reads_38 (fun r12 => ?_)
        refine x_iload_n 2 rfl dX5_reads_41 ?_
        refine x_iadd dX5_reads_42 ?_
        obtain ⟨c13, h⟩ := h
        refine x_callVi (As := [iV ((μ8 35 11) + l2_7)]) (rest := []) cal_X5_byteAt ins_X5_byteAt sel_X5_byteAt ly35 (by decide) rfl (xX5_byteAt x ((μ8 35 11) + l2_7) _ _ c13 h) rfl ml_X5_172 (xRoom (Nat.le_of_ble_eq_true rfl)) (Nat.le_of_ble_eq_true rfl) dX5_reads_43 (fun r16 μ14 i17 n15 h => ?_)
        have h := h i17 n15
        refine x_aload_n 1 rfl dX5_reads_46 ?_
        refine x_iload_n 2 rfl dX5_reads_47 ?_
        obtain ⟨c18, h⟩ := h
        refine x_schr hp1 c18.1 c18.2 c10 ml_X5_199 (xRoom (by decide)) (Nat.le_of_ble_eq_true rfl) dX5_reads_48 ?_
        refine x_icmpeq (tgt := 56) i17 (sChr_in _ _) dX5_reads_51 (by decide) (fun k19 => ?_) (fun k19 => ?_)
        · have h := h.1 k19
          refine x_iinc 2 rfl [(2, iV (l2_7 + 1)), (0, .ref (x.2.2.1 + 35)), (1, .ref (x.2.2.2.1 p1))] dX5_reads_56 (show 2 < 3 by decide) rfl ?_
          refine x_goto (tgt := 28) dX5_reads_59 (by decide) ?_
          exact x_sub [1, 2, 0] rfl (hJ28 _ _ h)
        · have h := h.2 k19
          refine x_iconst dX5_reads_54 ?_
          exact x_zret h (Or.inl rfl) rfl dX5_reads_55
    · have h := h.2 k6
      refine x_iconst dX5_reads_24 ?_
      exact x_zret h (Or.inl rfl) rfl dX5_reads_25
set_option maxRecDepth 100000 in
set_option maxHeartbeats 4000000 in
theorem xX5_fails (x : xX) (p1 : Int) (μ : xM) (Q : Int → xM → Prop) (hp1 : xIn p1) (h : tX5_fails p1 μ Q) : xMet x 1 yX5_fails cX5_fails 2 (some .boolean) [.ref (x.2.2.1 + 35), iV p1] μ (xQz x Q) := by
  refine xMet_of (by decide +kernel) (Nat.le_of_ble_eq_true rfl) ?_
  show xW x (xRm 1, RX5, cX5_fails, 2, (some .boolean), fun _ _ => True) (xQz x Q) 0 [(0, .ref (x.2.2.1 + 35)), (1, iV p1)] [] μ
  refine x_ran (fun n0 => ?_)
  have h := h n0 hp1
  refine x_aload_n 0 rfl dX5_fails_0 ?_
  refine x_iload_n 1 rfl dX5_fails_1 ?_
  refine x_putI (j := 1) ly35 (by decide) rfl rfl (by decide) inT5 fl_X5_45 tyX5 tyX5_ok nmX5 rfl hp1 (by decide +kernel) dX5_fails_2 (fun μ1 e3 n2 => ?_)
  have h := h μ1 e3 n2
  refine x_aload_n 0 rfl dX5_fails_5 ?_
  refine x_aload_n 0 rfl dX5_fails_6 ?_
  refine x_getI (j := 11) ly35 (by decide) rfl rfl (by decide) inT5 fl_X5_150 dX5_fails_7 (fun r4 => ?_)
  refine x_putI (j := 2) ly35 (by decide) rfl rfl (by decide) inT5 fl_X5_48 tyX5 tyX5_ok nmX5 rfl r4 (by decide +kernel) dX5_fails_10 (fun μ5 e7 n6 => ?_)
  have h := h μ5 e7 n6
  refine x_iconst dX5_fails_13 ?_
  exact x_zret h (Or.inl rfl) rfl dX5_fails_14
set_option maxRecDepth 100000 in
set_option maxHeartbeats 4000000 in
theorem xX5_readKey (x : xX) (p1 : Nat) (μ : xM) (Q : Int → xM → Prop) (hp1 : p1 < 13) (h : tX5_readKey p1 μ Q) : xMet x 6 yX5_readKey cX5_readKey 2 (some .boolean) [.ref (x.2.2.1 + 35), .ref (x.2.2.2.1 p1)] μ (xQz x Q) := by
  refine xMet_of (by decide +kernel) (Nat.le_of_ble_eq_true rfl) ?_
  show xW x (xRm 6, RX5, cX5_readKey, 2, (some .boolean), fun _ _ => True) (xQz x Q) 0 [(0, .ref (x.2.2.1 + 35)), (1, .ref (x.2.2.2.1 p1))] [] μ
  refine x_ran (fun n0 => ?_)
  have h := h n0 
  refine x_aload_n 0 rfl dX5_readKey_0 ?_
  refine x_aload_n 1 rfl dX5_readKey_1 ?_
  refine x_callVz (As := [.ref (x.2.2.2.1 p1)]) (rest := []) cal_X5_reads ins_X5_reads sel_X5_reads ly35 (by decide) rfl (xX5_reads x p1 _ _ hp1 h) rfl ml_X5_88 (xRoom (Nat.le_of_ble_eq_true rfl)) (Nat.le_of_ble_eq_true rfl) dX5_readKey_2 (fun r3 μ1 i4 n2 h => ?_)
  have h := h i4 n2
  refine x_ifne (tgt := 14) (xIz i4)  dX5_readKey_5 (by decide) (fun k5 => ?_) (fun k5 => ?_)
  · have h := h.1 (xz1 i4 k5)
    refine x_aload_n 0 rfl dX5_readKey_14 ?_
    refine x_callVv (As := []) (rest := []) cal_X5_next ins_X5_next sel_X5_next ly35 (by decide) rfl (xX5_next x  _ _  h) rfl ml_X5_63 (xRoom (Nat.le_of_ble_eq_true rfl)) (Nat.le_of_ble_eq_true rfl) dX5_readKey_15 (fun μ6 n7 h => ?_)
    have h := h n7
    refine x_iconst dX5_readKey_18 ?_
    exact x_zret h (Or.inr rfl) rfl dX5_readKey_19
  · have h := h.2 k5
    refine x_aload_n 0 rfl dX5_readKey_8 ?_
    refine x_iconst dX5_readKey_9 ?_
    refine x_callVz (As := [iV 1]) (rest := []) cal_X5_fails ins_X5_fails sel_X5_fails ly35 (by decide) rfl (xX5_fails x 1 _ _ ⟨by decide, by decide⟩ h) rfl ml_X5_76 (xRoom (Nat.le_of_ble_eq_true rfl)) (Nat.le_of_ble_eq_true rfl) dX5_readKey_10 (fun r10 μ8 i11 n9 h => ?_)
    have h := h i11 n9
    exact x_zret h i11 rfl dX5_readKey_13
set_option maxRecDepth 100000 in
set_option maxHeartbeats 4000000 in
theorem xX5_readWhole (x : xX) (p1 : Int) (p2 : Int) (μ : xM) (Q : Int → xM → Prop) (hp1 : xIn p1) (hp2 : xIn p2) (h : tX5_readWhole p1 p2 μ Q) : xMet x 4 yX5_readWhole cX5_readWhole 4 (some .boolean) [.ref (x.2.2.1 + 35), iV p1, iV p2] μ (xQz x Q) := by
  refine xMet_of (by decide +kernel) (Nat.le_of_ble_eq_true rfl) ?_
  show xW x (xRm 4, RX5, cX5_readWhole, 4, (some .boolean), fun _ _ => True) (xQz x Q) 0 [(0, .ref (x.2.2.1 + 35)), (1, iV p1), (2, iV p2)] [] μ
  refine x_ran (fun n0 => ?_)
  have h := h n0 hp1 hp2
  refine x_aload_n 0 rfl dX5_readWhole_0 ?_
  refine x_getI (j := 10) ly35 (by decide) rfl rfl (by decide) inT5 fl_X5_70 dX5_readWhole_1 (fun r1 => ?_)
  refine x_iconst dX5_readWhole_4 ?_
  refine x_icmpeq (tgt := 14) r1 ⟨by decide, by decide⟩ dX5_readWhole_5 (by decide) (fun k2 => ?_) (fun k2 => ?_)
  · have h := h.1 k2
    refine x_aload_n 0 rfl dX5_readWhole_14 ?_
    refine x_iconst dX5_readWhole_15 ?_
    refine x_putI (j := 13) ly35 (by decide) rfl rfl (by decide) inT5 fl_X5_124 tyX5 tyX5_ok nmX5 rfl ⟨by decide, by decide⟩ (by decide +kernel) dX5_readWhole_16 (fun μ3 e5 n4 => ?_)
    have h := h μ3 e5 n4
    refine x_aload_n 0 rfl dX5_readWhole_19 ?_
    refine x_getI (j := 11) ly35 (by decide) rfl rfl (by decide) inT5 fl_X5_150 dX5_readWhole_20 (fun r6 => ?_)
    refine x_istore_n [(3, iV (μ3 35 11)), (0, .ref (x.2.2.1 + 35)), (1, iV p1), (2, iV p2)] dX5_readWhole_23 (show 3 < 4 by decide) rfl ?_
    refine x_sub [1, 2, 3, 0] rfl ?_
    refine x_loop1 (fun l3_7 => [(0, .ref (x.2.2.1 + 35)), (1, iV p1), (2, iV p2), (3, iV l3_7)]) h (fun J24 l3_7 μ8 hJ24 h n9 => ?_)
    refine x_iload_n 3 rfl dX5_readWhole_24 ?_
    refine x_aload_n 0 rfl dX5_readWhole_25 ?_
    refine x_getI (j := 12) ly35 (by decide) rfl rfl (by decide) inT5 fl_X5_60 dX5_readWhole_26 (fun r10 => ?_)
    obtain ⟨c11, h⟩ := h
    refine x_icmpge (tgt := 58) c11 r10 dX5_readWhole_29 (by decide) (fun k12 => ?_) (fun k12 => ?_)
    · have h := h.1 k12
      refine x_aload_n 0 rfl dX5_readWhole_58 ?_
      refine x_getI (j := 13) ly35 (by decide) rfl rfl (by decide) inT5 fl_X5_124 dX5_readWhole_59 (fun r13 => ?_)
      refine x_iload_n 1 rfl dX5_readWhole_62 ?_
      refine x_icmplt (tgt := 74) r13 hp1 dX5_readWhole_63 (by decide) (fun k14 => ?_) (fun k14 => ?_)
      · have h := h.1 k14
        refine x_aload_n 0 rfl dX5_readWhole_74 ?_
        refine x_iconst dX5_readWhole_75 ?_
        refine x_callVz (As := [iV 4]) (rest := []) cal_X5_fails ins_X5_fails sel_X5_fails ly35 (by decide) rfl (xX5_fails x 4 _ _ ⟨by decide, by decide⟩ h) rfl ml_X5_76 (xRoom (Nat.le_of_ble_eq_true rfl)) (Nat.le_of_ble_eq_true rfl) dX5_readWhole_76 (fun r17 μ15 i18 n16 h => ?_)
        have h := h i18 n16
        exact x_zret h i18 rfl dX5_readWhole_79
      · have h := h.2 k14
        refine x_aload_n 0 rfl dX5_readWhole_66 ?_
        refine x_getI (j := 13) ly35 (by decide) rfl rfl (by decide) inT5 fl_X5_124 dX5_readWhole_67 (fun r19 => ?_)
        refine x_iload_n 2 rfl dX5_readWhole_70 ?_
        refine x_icmple (tgt := 80) r19 hp2 dX5_readWhole_71 (by decide) (fun k20 => ?_) (fun k20 => ?_)
        · have h := h.1 k20
          refine x_aload_n 0 rfl dX5_readWhole_80 ?_
          refine x_callVv (As := []) (rest := []) cal_X5_next ins_X5_next sel_X5_next ly35 (by decide) rfl (xX5_next x  _ _  h) rfl ml_X5_63 (xRoom (Nat.le_of_ble_eq_true rfl)) (Nat.le_of_ble_eq_true rfl) dX5_readWhole_81 (fun μ21 n22 h => ?_)
          have h := h n22
          refine x_iconst dX5_readWhole_84 ?_
          exact x_zret h (Or.inr rfl) rfl dX5_readWhole_85
        · have h := h.2 k20
          refine x_aload_n 0 rfl dX5_readWhole_74 ?_
          refine x_iconst dX5_readWhole_75 ?_
          refine x_callVz (As := [iV 4]) (rest := []) cal_X5_fails ins_X5_fails sel_X5_fails ly35 (by decide) rfl (xX5_fails x 4 _ _ ⟨by decide, by decide⟩ h) rfl ml_X5_76 (xRoom (Nat.le_of_ble_eq_true rfl)) (Nat.le_of_ble_eq_true rfl) dX5_readWhole_76 (fun r25 μ23 i26 n24 h => ?_)
          have h := h i26 n24
          exact x_zret h i26 rfl dX5_readWhole_79
    · have h := h.2 k12
      refine x_aload_n 0 rfl dX5_readWhole_32 ?_
      refine x_aload_n 0 rfl dX5_readWhole_33 ?_
      refine x_getI (j := 13) ly35 (by decide) rfl rfl (by decide) inT5 fl_X5_124 dX5_readWhole_34 (fun r27 => ?_)
      refine x_bipush dX5_readWhole_37 (by decide) ?_
      refine x_imul dX5_readWhole_39 ?_
      refine x_aload_n 0 rfl dX5_readWhole_40 ?_
      refine x_iload_n 3 rfl dX5_readWhole_41 ?_
      refine x_callVi (As := [iV l3_7]) (rest := [iV ((μ8 35 13) * 10), .ref (x.2.2.1 + 35)]) cal_X5_byteAt ins_X5_byteAt sel_X5_byteAt ly35 (by decide) rfl (xX5_byteAt x l3_7 _ _ c11 h) rfl ml_X5_172 (xRoom (Nat.le_of_ble_eq_true rfl)) (Nat.le_of_ble_eq_true rfl) dX5_readWhole_42 (fun r30 μ28 i31 n29 h => ?_)
      have h := h i31 n29
      refine x_iadd dX5_readWhole_45 ?_
      refine x_bipush dX5_readWhole_46 (by decide) ?_
      refine x_isub dX5_readWhole_48 ?_
      obtain ⟨c32, h⟩ := h
      refine x_putI (j := 13) ly35 (by decide) rfl rfl (by decide) inT5 fl_X5_124 tyX5 tyX5_ok nmX5 rfl c32 (by decide +kernel) dX5_readWhole_49 (fun μ33 e35 n34 => ?_)
      have h := h μ33 e35 n34
      refine x_iinc 3 rfl [(3, iV (l3_7 + 1)), (0, .ref (x.2.2.1 + 35)), (1, iV p1), (2, iV p2)] dX5_readWhole_52 (show 3 < 4 by decide) rfl ?_
      refine x_goto (tgt := 24) dX5_readWhole_55 (by decide) ?_
      exact x_sub [1, 2, 3, 0] rfl (hJ24 _ _ h)
  · have h := h.2 k2
    refine x_aload_n 0 rfl dX5_readWhole_8 ?_
    refine x_iconst dX5_readWhole_9 ?_
    refine x_callVz (As := [iV 1]) (rest := []) cal_X5_fails ins_X5_fails sel_X5_fails ly35 (by decide) rfl (xX5_fails x 1 _ _ ⟨by decide, by decide⟩ h) rfl ml_X5_76 (xRoom (Nat.le_of_ble_eq_true rfl)) (Nat.le_of_ble_eq_true rfl) dX5_readWhole_10 (fun r38 μ36 i39 n37 h => ?_)
    have h := h i39 n37
    exact x_zret h i39 rfl dX5_readWhole_13
set_option maxRecDepth 100000 in
set_option maxHeartbeats 4000000 in
theorem xX5_readManner (x : xX)  (μ : xM) (Q : Int → xM → Prop)  (h : tX5_readManner  μ Q) : xMet x 6 yX5_readManner cX5_readManner 1 (some .boolean) [.ref (x.2.2.1 + 35)] μ (xQz x Q) := by
  refine xMet_of (by decide +kernel) (Nat.le_of_ble_eq_true rfl) ?_
  show xW x (xRm 6, RX5, cX5_readManner, 1, (some .boolean), fun _ _ => True) (xQz x Q) 0 [(0, .ref (x.2.2.1 + 35))] [] μ
  refine x_ran (fun n0 => ?_)
  have h := h n0 
  refine x_aload_n 0 rfl dX5_readManner_0 ?_
  refine x_ldcS 4 (i := 4) rfl dX5_readManner_1 ?_
  refine x_callVz (As := [.ref (x.2.2.2.1 4)]) (rest := []) cal_X5_reads ins_X5_reads sel_X5_reads ly35 (by decide) rfl (xX5_reads x 4 _ _ (by decide) h) rfl ml_X5_88 (xRoom (Nat.le_of_ble_eq_true rfl)) (Nat.le_of_ble_eq_true rfl) dX5_readManner_3 (fun r3 μ1 i4 n2 h => ?_)
  have h := h i4 n2
  refine x_ifeq (tgt := 20) (xIz i4)  dX5_readManner_6 (by decide) (fun k5 => ?_) (fun k5 => ?_)
  · have h := h.1 k5
    refine x_aload_n 0 rfl dX5_readManner_20 ?_
    refine x_ldcS 5 (i := 5) rfl dX5_readManner_21 ?_
    refine x_callVz (As := [.ref (x.2.2.2.1 5)]) (rest := []) cal_X5_reads ins_X5_reads sel_X5_reads ly35 (by decide) rfl (xX5_reads x 5 _ _ (by decide) h) rfl ml_X5_88 (xRoom (Nat.le_of_ble_eq_true rfl)) (Nat.le_of_ble_eq_true rfl) dX5_readManner_23 (fun r8 μ6 i9 n7 h => ?_)
    have h := h i9 n7
    refine x_ifeq (tgt := 40) (xIz i9)  dX5_readManner_26 (by decide) (fun k10 => ?_) (fun k10 => ?_)
    · have h := h.1 k10
      refine x_aload_n 0 rfl dX5_readManner_40 ?_
      refine x_ldcS 6 (i := 6) rfl dX5_readManner_41 ?_
      refine x_callVz (As := [.ref (x.2.2.2.1 6)]) (rest := []) cal_X5_reads ins_X5_reads sel_X5_reads ly35 (by decide) rfl (xX5_reads x 6 _ _ (by decide) h) rfl ml_X5_88 (xRoom (Nat.le_of_ble_eq_true rfl)) (Nat.le_of_ble_eq_true rfl) dX5_readManner_43 (fun r13 μ11 i14 n12 h => ?_)
      have h := h i14 n12
      refine x_ifeq (tgt := 60) (xIz i14)  dX5_readManner_46 (by decide) (fun k15 => ?_) (fun k15 => ?_)
      · have h := h.1 k15
        refine x_aload_n 0 rfl dX5_readManner_60 ?_
        refine x_iconst dX5_readManner_61 ?_
        refine x_callVz (As := [iV 1]) (rest := []) cal_X5_fails ins_X5_fails sel_X5_fails ly35 (by decide) rfl (xX5_fails x 1 _ _ ⟨by decide, by decide⟩ h) rfl ml_X5_76 (xRoom (Nat.le_of_ble_eq_true rfl)) (Nat.le_of_ble_eq_true rfl) dX5_readManner_62 (fun r18 μ16 i19 n17 h => ?_)
        have h := h i19 n17
        exact x_zret h i19 rfl dX5_readManner_65
      · have h := h.2 (xz1 i14 k15)
        refine x_aload_n 0 rfl dX5_readManner_49 ?_
        refine x_getR (j := 6) (r := 1) ly35 (by decide) rfl rfl (by decide) inT5 fl_X5_21 dX5_readManner_50 ?_
        refine x_iconst dX5_readManner_53 ?_
        refine x_putI (j := 2) ly1 (by decide) rfl rfl (by decide) inT2 fl_X5_140 tyX2 tyX2_ok nmX2 rfl ⟨by decide, by decide⟩ (by decide +kernel) dX5_readManner_54 (fun μ20 e22 n21 => ?_)
        have h := h μ20 e22 n21
        refine x_goto (tgt := 66) dX5_readManner_57 (by decide) ?_
        refine x_aload_n 0 rfl dX5_readManner_66 ?_
        refine x_callVv (As := []) (rest := []) cal_X5_next ins_X5_next sel_X5_next ly35 (by decide) rfl (xX5_next x  _ _  h) rfl ml_X5_63 (xRoom (Nat.le_of_ble_eq_true rfl)) (Nat.le_of_ble_eq_true rfl) dX5_readManner_67 (fun μ23 n24 h => ?_)
        have h := h n24
        refine x_iconst dX5_readManner_70 ?_
        exact x_zret h (Or.inr rfl) rfl dX5_readManner_71
    · have h := h.2 (xz1 i9 k10)
      refine x_aload_n 0 rfl dX5_readManner_29 ?_
      refine x_getR (j := 6) (r := 1) ly35 (by decide) rfl rfl (by decide) inT5 fl_X5_21 dX5_readManner_30 ?_
      refine x_iconst dX5_readManner_33 ?_
      refine x_putI (j := 2) ly1 (by decide) rfl rfl (by decide) inT2 fl_X5_140 tyX2 tyX2_ok nmX2 rfl ⟨by decide, by decide⟩ (by decide +kernel) dX5_readManner_34 (fun μ25 e27 n26 => ?_)
      have h := h μ25 e27 n26
      refine x_goto (tgt := 66) dX5_readManner_37 (by decide) ?_
      refine x_aload_n 0 rfl dX5_readManner_66 ?_
      refine x_callVv (As := []) (rest := []) cal_X5_next ins_X5_next sel_X5_next ly35 (by decide) rfl (xX5_next x  _ _  h) rfl ml_X5_63 (xRoom (Nat.le_of_ble_eq_true rfl)) (Nat.le_of_ble_eq_true rfl) dX5_readManner_67 (fun μ28 n29 h => ?_)
      have h := h n29
      refine x_iconst dX5_readManner_70 ?_
      exact x_zret h (Or.inr rfl) rfl dX5_readManner_71
  · have h := h.2 (xz1 i4 k5)
    refine x_aload_n 0 rfl dX5_readManner_9 ?_
    refine x_getR (j := 6) (r := 1) ly35 (by decide) rfl rfl (by decide) inT5 fl_X5_21 dX5_readManner_10 ?_
    refine x_iconst dX5_readManner_13 ?_
    refine x_putI (j := 2) ly1 (by decide) rfl rfl (by decide) inT2 fl_X5_140 tyX2 tyX2_ok nmX2 rfl ⟨by decide, by decide⟩ (by decide +kernel) dX5_readManner_14 (fun μ30 e32 n31 => ?_)
    have h := h μ30 e32 n31
    refine x_goto (tgt := 66) dX5_readManner_17 (by decide) ?_
    refine x_aload_n 0 rfl dX5_readManner_66 ?_
    refine x_callVv (As := []) (rest := []) cal_X5_next ins_X5_next sel_X5_next ly35 (by decide) rfl (xX5_next x  _ _  h) rfl ml_X5_63 (xRoom (Nat.le_of_ble_eq_true rfl)) (Nat.le_of_ble_eq_true rfl) dX5_readManner_67 (fun μ33 n34 h => ?_)
    have h := h n34
    refine x_iconst dX5_readManner_70 ?_
    exact x_zret h (Or.inr rfl) rfl dX5_readManner_71
set_option maxRecDepth 100000 in
set_option maxHeartbeats 4000000 in
theorem xX5_readHouse (x : xX)  (μ : xM) (Q : Int → xM → Prop)  (h : tX5_readHouse  μ Q) : xMet x 7 yX5_readHouse cX5_readHouse 1 (some .boolean) [.ref (x.2.2.1 + 35)] μ (xQz x Q) := by
  refine xMet_of (by decide +kernel) (Nat.le_of_ble_eq_true rfl) ?_
  show xW x (xRm 7, RX5, cX5_readHouse, 1, (some .boolean), fun _ _ => True) (xQz x Q) 0 [(0, .ref (x.2.2.1 + 35))] [] μ
  refine x_ran (fun n0 => ?_)
  have h := h n0 
  refine x_aload_n 0 rfl dX5_readHouse_0 ?_
  refine x_getI (j := 7) ly35 (by decide) rfl rfl (by decide) inT5 fl_X5_38 dX5_readHouse_1 (fun r1 => ?_)
  refine x_ifeq (tgt := 13) r1  dX5_readHouse_4 (by decide) (fun k2 => ?_) (fun k2 => ?_)
  · have h := h.1 k2
    refine x_aload_n 0 rfl dX5_readHouse_13 ?_
    refine x_iconst dX5_readHouse_14 ?_
    refine x_putZ (j := 7) ly35 (by decide) rfl rfl (by decide) inT5 fl_X5_38 tyX5 tyX5_ok nmX5 rfl (Or.inr rfl) (by decide +kernel) dX5_readHouse_15 (fun μ3 e5 n4 => ?_)
    have h := h μ3 e5 n4
    refine x_aload_n 0 rfl dX5_readHouse_18 ?_
    refine x_callVv (As := []) (rest := []) cal_X5_next ins_X5_next sel_X5_next ly35 (by decide) rfl (xX5_next x  _ _  h) rfl ml_X5_63 (xRoom (Nat.le_of_ble_eq_true rfl)) (Nat.le_of_ble_eq_true rfl) dX5_readHouse_19 (fun μ6 n7 h => ?_)
    have h := h n7
    refine x_aload_n 0 rfl dX5_readHouse_22 ?_
    refine x_ldcS 1 (i := 1) rfl dX5_readHouse_23 ?_
    refine x_callVz (As := [.ref (x.2.2.2.1 1)]) (rest := []) cal_X5_readKey ins_X5_readKey sel_X5_readKey ly35 (by decide) rfl (xX5_readKey x 1 _ _ (by decide) h) rfl ml_X5_117 (xRoom (Nat.le_of_ble_eq_true rfl)) (Nat.le_of_ble_eq_true rfl) dX5_readHouse_25 (fun r10 μ8 i11 n9 h => ?_)
    have h := h i11 n9
    refine x_ifeq (tgt := 40) (xIz i11)  dX5_readHouse_28 (by decide) (fun k12 => ?_) (fun k12 => ?_)
    · have h := h.1 k12
      refine x_iconst dX5_readHouse_40 ?_
      exact x_zret h (Or.inl rfl) rfl dX5_readHouse_41
    · have h := h.2 (xz1 i11 k12)
      refine x_aload_n 0 rfl dX5_readHouse_31 ?_
      refine x_iconst dX5_readHouse_32 ?_
      refine x_iconst dX5_readHouse_33 ?_
      refine x_callVz (As := [iV 1, iV 3]) (rest := []) cal_X5_readWhole ins_X5_readWhole sel_X5_readWhole ly35 (by decide) rfl (xX5_readWhole x 1 3 _ _ ⟨by decide, by decide⟩ ⟨by decide, by decide⟩ h) rfl ml_X5_120 (xRoom (Nat.le_of_ble_eq_true rfl)) (Nat.le_of_ble_eq_true rfl) dX5_readHouse_34 (fun r15 μ13 i16 n14 h => ?_)
      have h := h i16 n14
      refine x_ifne (tgt := 42) (xIz i16)  dX5_readHouse_37 (by decide) (fun k17 => ?_) (fun k17 => ?_)
      · have h := h.1 (xz1 i16 k17)
        refine x_aload_n 0 rfl dX5_readHouse_42 ?_
        refine x_getR (j := 6) (r := 1) ly35 (by decide) rfl rfl (by decide) inT5 fl_X5_21 dX5_readHouse_43 ?_
        refine x_aload_n 0 rfl dX5_readHouse_46 ?_
        refine x_getI (j := 13) ly35 (by decide) rfl rfl (by decide) inT5 fl_X5_124 dX5_readHouse_47 (fun r18 => ?_)
        refine x_putI (j := 0) ly1 (by decide) rfl rfl (by decide) inT2 fl_X5_127 tyX2 tyX2_ok nmX2 rfl r18 (by decide +kernel) dX5_readHouse_50 (fun μ19 e21 n20 => ?_)
        have h := h μ19 e21 n20
        refine x_aload_n 0 rfl dX5_readHouse_53 ?_
        refine x_ldcS 2 (i := 2) rfl dX5_readHouse_54 ?_
        refine x_callVz (As := [.ref (x.2.2.2.1 2)]) (rest := []) cal_X5_readKey ins_X5_readKey sel_X5_readKey ly35 (by decide) rfl (xX5_readKey x 2 _ _ (by decide) h) rfl ml_X5_117 (xRoom (Nat.le_of_ble_eq_true rfl)) (Nat.le_of_ble_eq_true rfl) dX5_readHouse_56 (fun r24 μ22 i25 n23 h => ?_)
        have h := h i25 n23
        refine x_ifeq (tgt := 72) (xIz i25)  dX5_readHouse_59 (by decide) (fun k26 => ?_) (fun k26 => ?_)
        · have h := h.1 k26
          refine x_iconst dX5_readHouse_72 ?_
          exact x_zret h (Or.inl rfl) rfl dX5_readHouse_73
        · have h := h.2 (xz1 i25 k26)
          refine x_aload_n 0 rfl dX5_readHouse_62 ?_
          refine x_iconst dX5_readHouse_63 ?_
          refine x_bipush dX5_readHouse_64 (by decide) ?_
          refine x_callVz (As := [iV 1, iV 6]) (rest := []) cal_X5_readWhole ins_X5_readWhole sel_X5_readWhole ly35 (by decide) rfl (xX5_readWhole x 1 6 _ _ ⟨by decide, by decide⟩ ⟨by decide, by decide⟩ h) rfl ml_X5_120 (xRoom (Nat.le_of_ble_eq_true rfl)) (Nat.le_of_ble_eq_true rfl) dX5_readHouse_66 (fun r29 μ27 i30 n28 h => ?_)
          have h := h i30 n28
          refine x_ifne (tgt := 74) (xIz i30)  dX5_readHouse_69 (by decide) (fun k31 => ?_) (fun k31 => ?_)
          · have h := h.1 (xz1 i30 k31)
            refine x_aload_n 0 rfl dX5_readHouse_74 ?_
            refine x_getR (j := 6) (r := 1) ly35 (by decide) rfl rfl (by decide) inT5 fl_X5_21 dX5_readHouse_75 ?_
            refine x_aload_n 0 rfl dX5_readHouse_78 ?_
            refine x_getI (j := 13) ly35 (by decide) rfl rfl (by decide) inT5 fl_X5_124 dX5_readHouse_79 (fun r32 => ?_)
            refine x_putI (j := 1) ly1 (by decide) rfl rfl (by decide) inT2 fl_X5_131 tyX2 tyX2_ok nmX2 rfl r32 (by decide +kernel) dX5_readHouse_82 (fun μ33 e35 n34 => ?_)
            have h := h μ33 e35 n34
            refine x_aload_n 0 rfl dX5_readHouse_85 ?_
            refine x_ldcS 3 (i := 3) rfl dX5_readHouse_86 ?_
            refine x_callVz (As := [.ref (x.2.2.2.1 3)]) (rest := []) cal_X5_readKey ins_X5_readKey sel_X5_readKey ly35 (by decide) rfl (xX5_readKey x 3 _ _ (by decide) h) rfl ml_X5_117 (xRoom (Nat.le_of_ble_eq_true rfl)) (Nat.le_of_ble_eq_true rfl) dX5_readHouse_88 (fun r38 μ36 i39 n37 h => ?_)
            have h := h i39 n37
            refine x_ifeq (tgt := 105) (xIz i39)  dX5_readHouse_91 (by decide) (fun k40 => ?_) (fun k40 => ?_)
            · have h := h.1 k40
              refine x_iconst dX5_readHouse_105 ?_
              exact x_zret h (Or.inl rfl) rfl dX5_readHouse_106
            · have h := h.2 (xz1 i39 k40)
              refine x_aload_n 0 rfl dX5_readHouse_94 ?_
              refine x_callVz (As := []) (rest := []) cal_X5_readManner ins_X5_readManner sel_X5_readManner ly35 (by decide) rfl (xX5_readManner x  _ _  h) rfl ml_X5_135 (xRoom (Nat.le_of_ble_eq_true rfl)) (Nat.le_of_ble_eq_true rfl) dX5_readHouse_95 (fun r43 μ41 i44 n42 h => ?_)
              have h := h i44 n42
              refine x_ifeq (tgt := 105) (xIz i44)  dX5_readHouse_98 (by decide) (fun k45 => ?_) (fun k45 => ?_)
              · have h := h.1 k45
                refine x_iconst dX5_readHouse_105 ?_
                exact x_zret h (Or.inl rfl) rfl dX5_readHouse_106
              · have h := h.2 (xz1 i44 k45)
                refine x_iconst dX5_readHouse_101 ?_
                refine x_goto (tgt := 106) dX5_readHouse_102 (by decide) ?_
                exact x_zret h (Or.inr rfl) rfl dX5_readHouse_106
          · have h := h.2 k31
            refine x_iconst dX5_readHouse_72 ?_
            exact x_zret h (Or.inl rfl) rfl dX5_readHouse_73
      · have h := h.2 k17
        refine x_iconst dX5_readHouse_40 ?_
        exact x_zret h (Or.inl rfl) rfl dX5_readHouse_41
  · have h := h.2 k2
    refine x_aload_n 0 rfl dX5_readHouse_7 ?_
    refine x_iconst dX5_readHouse_8 ?_
    refine x_callVz (As := [iV 3]) (rest := []) cal_X5_fails ins_X5_fails sel_X5_fails ly35 (by decide) rfl (xX5_fails x 3 _ _ ⟨by decide, by decide⟩ h) rfl ml_X5_76 (xRoom (Nat.le_of_ble_eq_true rfl)) (Nat.le_of_ble_eq_true rfl) dX5_readHouse_9 (fun r48 μ46 i49 n47 h => ?_)
    have h := h i49 n47
    exact x_zret h i49 rfl dX5_readHouse_12
set_option maxRecDepth 100000 in
set_option maxHeartbeats 4000000 in
theorem xX5_isWordHere (x : xX) (p1 : Int) (μ : xM) (Q : Int → xM → Prop) (hp1 : xIn p1) (h : tX5_isWordHere p1 μ Q) : xMet x 3 yX5_isWordHere cX5_isWordHere 3 (some .boolean) [.ref (x.2.2.1 + 35), iV p1] μ (xQz x Q) := by
  refine xMet_of (by decide +kernel) (Nat.le_of_ble_eq_true rfl) ?_
  show xW x (xRm 3, RX5, cX5_isWordHere, 3, (some .boolean), fun _ _ => True) (xQz x Q) 0 [(0, .ref (x.2.2.1 + 35)), (1, iV p1)] [] μ
  refine x_ran (fun n0 => ?_)
  have h := h n0 hp1
  refine x_aload_n 0 rfl dX5_isWordHere_0 ?_
  refine x_getR (j := 6) (r := 1) ly35 (by decide) rfl rfl (by decide) inT5 fl_X5_21 dX5_isWordHere_1 ?_
  refine x_iload_n 1 rfl dX5_isWordHere_4 ?_
  refine x_callVi (As := [iV p1]) (rest := []) cal_X2_lengthOf ins_X2_lengthOf sel_X2_lengthOf ly1 (by decide) rfl (xX2_lengthOf x 1 p1 _ _ isHouse_1 hp1 h) rfl ml_X5_206 (xRoom (Nat.le_of_ble_eq_true rfl)) (Nat.le_of_ble_eq_true rfl) dX5_isWordHere_5 (fun r3 μ1 i4 n2 h => ?_)
  have h := h i4 n2
  refine x_aload_n 0 rfl dX5_isWordHere_8 ?_
  refine x_getI (j := 12) ly35 (by decide) rfl rfl (by decide) inT5 fl_X5_60 dX5_isWordHere_9 (fun r5 => ?_)
  refine x_aload_n 0 rfl dX5_isWordHere_12 ?_
  refine x_getI (j := 11) ly35 (by decide) rfl rfl (by decide) inT5 fl_X5_150 dX5_isWordHere_13 (fun r6 => ?_)
  refine x_isub dX5_isWordHere_16 ?_
  obtain ⟨c7, h⟩ := h
  refine x_icmpeq (tgt := 22) i4 c7 dX5_isWordHere_17 (by decide) (fun k8 => ?_) (fun k8 => ?_)
  · have h := h.1 k8
    refine x_aload_n 0 rfl dX5_isWordHere_22 ?_
    refine x_getI (j := 11) ly35 (by decide) rfl rfl (by decide) inT5 fl_X5_150 dX5_isWordHere_23 (fun r9 => ?_)
    refine x_istore_n [(2, iV (μ1 35 11)), (0, .ref (x.2.2.1 + 35)), (1, iV p1)] dX5_isWordHere_26 (show 2 < 3 by decide) rfl ?_
    refine x_sub [1, 2, 0] rfl ?_
    refine x_loop1 (fun l2_10 => [(0, .ref (x.2.2.1 + 35)), (1, iV p1), (2, iV l2_10)]) h (fun J27 l2_10 μ11 hJ27 h n12 => ?_)
    refine x_iload_n 2 rfl dX5_isWordHere_27 ?_
    refine x_aload_n 0 rfl dX5_isWordHere_28 ?_
    refine x_getI (j := 12) ly35 (by decide) rfl rfl (by decide) inT5 fl_X5_60 dX5_isWordHere_29 (fun r13 => ?_)
    obtain ⟨c14, h⟩ := h
    refine x_icmpge (tgt := 68) c14 r13 dX5_isWordHere_32 (by decide) (fun k15 => ?_) (fun k15 => ?_)
    · have h := h.1 k15
      refine x_iconst dX5_isWordHere_68 ?_
      exact x_zret h (Or.inr rfl) rfl dX5_isWordHere_69
    · have h := h.2 k15
      refine x_aload_n 0 rfl dX5_isWordHere_35 ?_
      refine x_getR (j := 6) (r := 1) ly35 (by decide) rfl rfl (by decide) inT5 fl_X5_21 dX5_isWordHere_36 ?_
      refine x_iload_n 1 rfl dX5_isWordHere_39 ?_
      refine x_iload_n 2 rfl dX5_isWordHere_40 ?_
      refine x_aload_n 0 rfl dX5_isWordHere_41 ?_
      refine x_getI (j := 11) ly35 (by decide) rfl rfl (by decide) inT5 fl_X5_150 dX5_isWordHere_42 (fun r16 => ?_)
      refine x_isub dX5_isWordHere_45 ?_
      obtain ⟨c17, h⟩ := h
      refine x_callVi (As := [iV p1, iV (l2_10 - (μ11 35 11))]) (rest := []) cal_X2_glyphOf ins_X2_glyphOf sel_X2_glyphOf ly1 (by decide) rfl (xX2_glyphOf x 1 p1 (l2_10 - (μ11 35 11)) _ _ isHouse_1 hp1 c17 h) rfl ml_X5_209 (xRoom (Nat.le_of_ble_eq_true rfl)) (Nat.le_of_ble_eq_true rfl) dX5_isWordHere_46 (fun r20 μ18 i21 n19 h => ?_)
      have h := h i21 n19
      refine x_aload_n 0 rfl dX5_isWordHere_49 ?_
      refine x_iload_n 2 rfl dX5_isWordHere_50 ?_
      refine x_callVi (As := [iV l2_10]) (rest := [iV r20]) cal_X5_byteAt ins_X5_byteAt sel_X5_byteAt ly35 (by decide) rfl (xX5_byteAt x l2_10 _ _ c14 h) rfl ml_X5_172 (xRoom (Nat.le_of_ble_eq_true rfl)) (Nat.le_of_ble_eq_true rfl) dX5_isWordHere_51 (fun r24 μ22 i25 n23 h => ?_)
      have h := h i25 n23
      refine x_bipush dX5_isWordHere_54 (by decide) ?_
      refine x_isub dX5_isWordHere_56 ?_
      obtain ⟨c26, h⟩ := h
      refine x_icmpeq (tgt := 62) i21 c26 dX5_isWordHere_57 (by decide) (fun k27 => ?_) (fun k27 => ?_)
      · have h := h.1 k27
        refine x_iinc 2 rfl [(2, iV (l2_10 + 1)), (0, .ref (x.2.2.1 + 35)), (1, iV p1)] dX5_isWordHere_62 (show 2 < 3 by decide) rfl ?_
        refine x_goto (tgt := 27) dX5_isWordHere_65 (by decide) ?_
        exact x_sub [1, 2, 0] rfl (hJ27 _ _ h)
      · have h := h.2 k27
        refine x_iconst dX5_isWordHere_60 ?_
        exact x_zret h (Or.inl rfl) rfl dX5_isWordHere_61
  · have h := h.2 k8
    refine x_iconst dX5_isWordHere_20 ?_
    exact x_zret h (Or.inl rfl) rfl dX5_isWordHere_21
set_option maxRecDepth 100000 in
set_option maxHeartbeats 4000000 in
theorem xX5_toldWord (x : xX)  (μ : xM) (Q : Int → xM → Prop)  (h : tX5_toldWord  μ Q) : xMet x 4 yX5_toldWord cX5_toldWord 2 (some .int) [.ref (x.2.2.1 + 35)] μ (xQi x Q) := by
  refine xMet_of (by decide +kernel) (Nat.le_of_ble_eq_true rfl) ?_
  show xW x (xRm 4, RX5, cX5_toldWord, 2, (some .int), fun _ _ => True) (xQi x Q) 0 [(0, .ref (x.2.2.1 + 35))] [] μ
  refine x_ran (fun n0 => ?_)
  have h := h n0 
  refine x_iconst dX5_toldWord_0 ?_
  refine x_istore_n [(1, iV 0), (0, .ref (x.2.2.1 + 35))] dX5_toldWord_1 (show 1 < 2 by decide) rfl ?_
  refine x_sub [1, 0] rfl ?_
  refine x_loop1 (fun l1_1 => [(0, .ref (x.2.2.1 + 35)), (1, iV l1_1)]) h (fun J2 l1_1 μ2 hJ2 h n3 => ?_)
  refine x_iload_n 1 rfl dX5_toldWord_2 ?_
  refine x_aload_n 0 rfl dX5_toldWord_3 ?_
  refine x_getR (j := 6) (r := 1) ly35 (by decide) rfl rfl (by decide) inT5 fl_X5_21 dX5_toldWord_4 ?_
  refine x_getI (j := 3) ly1 (by decide) rfl rfl (by decide) inT2 fl_X5_80 dX5_toldWord_7 (fun r4 => ?_)
  obtain ⟨c5, h⟩ := h
  refine x_icmpge (tgt := 29) c5 r4 dX5_toldWord_10 (by decide) (fun k6 => ?_) (fun k6 => ?_)
  · have h := h.1 k6
    refine x_iconst dX5_toldWord_29 ?_
    exact x_iret h ⟨by decide, by decide⟩ rfl dX5_toldWord_30
  · have h := h.2 k6
    refine x_aload_n 0 rfl dX5_toldWord_13 ?_
    refine x_iload_n 1 rfl dX5_toldWord_14 ?_
    refine x_callVz (As := [iV l1_1]) (rest := []) cal_X5_isWordHere ins_X5_isWordHere sel_X5_isWordHere ly35 (by decide) rfl (xX5_isWordHere x l1_1 _ _ c5 h) rfl ml_X5_203 (xRoom (Nat.le_of_ble_eq_true rfl)) (Nat.le_of_ble_eq_true rfl) dX5_toldWord_15 (fun r9 μ7 i10 n8 h => ?_)
    have h := h i10 n8
    refine x_ifeq (tgt := 23) (xIz i10)  dX5_toldWord_18 (by decide) (fun k11 => ?_) (fun k11 => ?_)
    · have h := h.1 k11
      refine x_iinc 1 rfl [(1, iV (l1_1 + 1)), (0, .ref (x.2.2.1 + 35))] dX5_toldWord_23 (show 1 < 2 by decide) rfl ?_
      refine x_goto (tgt := 2) dX5_toldWord_26 (by decide) ?_
      exact x_sub [1, 0] rfl (hJ2 _ _ h)
    · have h := h.2 (xz1 i10 k11)
      refine x_iload_n 1 rfl dX5_toldWord_21 ?_
      exact x_iret h c5 rfl dX5_toldWord_22
set_option maxRecDepth 100000 in
set_option maxHeartbeats 4000000 in
theorem xX5_readWord (x : xX)  (μ : xM) (Q : Int → xM → Prop)  (h : tX5_readWord  μ Q) : xMet x 7 yX5_readWord cX5_readWord 2 (some .boolean) [.ref (x.2.2.1 + 35)] μ (xQz x Q) := by
  refine xMet_of (by decide +kernel) (Nat.le_of_ble_eq_true rfl) ?_
  show xW x (xRm 7, RX5, cX5_readWord, 2, (some .boolean), fun _ _ => True) (xQz x Q) 0 [(0, .ref (x.2.2.1 + 35))] [] μ
  refine x_ran (fun n0 => ?_)
  have h := h n0 
  refine x_aload_n 0 rfl dX5_readWord_0 ?_
  refine x_getR (j := 6) (r := 1) ly35 (by decide) rfl rfl (by decide) inT5 fl_X5_21 dX5_readWord_1 ?_
  refine x_getI (j := 3) ly1 (by decide) rfl rfl (by decide) inT2 fl_X5_80 dX5_readWord_4 (fun r1 => ?_)
  refine x_bipush dX5_readWord_7 (by decide) ?_
  refine x_icmplt (tgt := 18) r1 ⟨by decide, by decide⟩ dX5_readWord_9 (by decide) (fun k2 => ?_) (fun k2 => ?_)
  · have h := h.1 k2
    refine x_aload_n 0 rfl dX5_readWord_18 ?_
    refine x_callVv (As := []) (rest := []) cal_X5_next ins_X5_next sel_X5_next ly35 (by decide) rfl (xX5_next x  _ _  h) rfl ml_X5_63 (xRoom (Nat.le_of_ble_eq_true rfl)) (Nat.le_of_ble_eq_true rfl) dX5_readWord_19 (fun μ3 n4 h => ?_)
    have h := h n4
    refine x_aload_n 0 rfl dX5_readWord_22 ?_
    refine x_getI (j := 10) ly35 (by decide) rfl rfl (by decide) inT5 fl_X5_70 dX5_readWord_23 (fun r5 => ?_)
    refine x_iconst dX5_readWord_26 ?_
    refine x_icmpeq (tgt := 36) r5 ⟨by decide, by decide⟩ dX5_readWord_27 (by decide) (fun k6 => ?_) (fun k6 => ?_)
    · have h := h.1 k6
      refine x_aload_n 0 rfl dX5_readWord_36 ?_
      refine x_callVi (As := []) (rest := []) cal_X5_toldWord ins_X5_toldWord sel_X5_toldWord ly35 (by decide) rfl (xX5_toldWord x  _ _  h) rfl ml_X5_146 (xRoom (Nat.le_of_ble_eq_true rfl)) (Nat.le_of_ble_eq_true rfl) dX5_readWord_37 (fun r9 μ7 i10 n8 h => ?_)
      have h := h i10 n8
      refine x_iflt (tgt := 49) i10  dX5_readWord_40 (by decide) (fun k11 => ?_) (fun k11 => ?_)
      · have h := h.1 k11
        refine x_aload_n 0 rfl dX5_readWord_49 ?_
        refine x_getI (j := 12) ly35 (by decide) rfl rfl (by decide) inT5 fl_X5_60 dX5_readWord_50 (fun r12 => ?_)
        refine x_aload_n 0 rfl dX5_readWord_53 ?_
        refine x_getI (j := 11) ly35 (by decide) rfl rfl (by decide) inT5 fl_X5_150 dX5_readWord_54 (fun r13 => ?_)
        refine x_isub dX5_readWord_57 ?_
        refine x_bipush dX5_readWord_58 (by decide) ?_
        obtain ⟨c14, h⟩ := h
        refine x_icmple (tgt := 69) c14 ⟨by decide, by decide⟩ dX5_readWord_60 (by decide) (fun k15 => ?_) (fun k15 => ?_)
        · have h := h.1 k15
          refine x_aload_n 0 rfl dX5_readWord_69 ?_
          refine x_getR (j := 6) (r := 1) ly35 (by decide) rfl rfl (by decide) inT5 fl_X5_21 dX5_readWord_70 ?_
          refine x_aload_n 0 rfl dX5_readWord_73 ?_
          refine x_getR (j := 3) (r := 36) ly35 (by decide) rfl rfl (by decide) inT5 fl_X5_9 dX5_readWord_74 ?_
          refine x_aload_n 0 rfl dX5_readWord_77 ?_
          refine x_getI (j := 11) ly35 (by decide) rfl rfl (by decide) inT5 fl_X5_150 dX5_readWord_78 (fun r16 => ?_)
          refine x_aload_n 0 rfl dX5_readWord_81 ?_
          refine x_getI (j := 12) ly35 (by decide) rfl rfl (by decide) inT5 fl_X5_60 dX5_readWord_82 (fun r17 => ?_)
          refine x_callVv (As := [.ref (x.2.2.1 + 36), iV (μ7 35 11), iV (μ7 35 12)]) (rest := []) cal_X2_addWord ins_X2_addWord sel_X2_addWord ly1 (by decide) rfl (xX2_addWord x 1 36 900 (μ7 35 11) (μ7 35 12) _ _ isHouse_1 ⟨ly36, (by decide), (by decide)⟩ r16 r17 h) rfl ml_X5_153 (xRoom (Nat.le_of_ble_eq_true rfl)) (Nat.le_of_ble_eq_true rfl) dX5_readWord_85 (fun μ18 n19 h => ?_)
          have h := h n19
          refine x_aload_n 0 rfl dX5_readWord_88 ?_
          refine x_getR (j := 6) (r := 1) ly35 (by decide) rfl rfl (by decide) inT5 fl_X5_21 dX5_readWord_89 ?_
          refine x_getI (j := 3) ly1 (by decide) rfl rfl (by decide) inT2 fl_X5_80 dX5_readWord_92 (fun r20 => ?_)
          refine x_iconst dX5_readWord_95 ?_
          refine x_isub dX5_readWord_96 ?_
          refine x_istore_n [(1, iV ((μ18 1 3) - 1)), (0, .ref (x.2.2.1 + 35))] dX5_readWord_97 (show 1 < 2 by decide) rfl ?_
          refine x_aload_n 1 rfl dX5_readWord_98 ?_
          refine x_callVv (As := []) (rest := []) cal_X5_next ins_X5_next sel_X5_next ly35 (by decide) rfl (xX5_next x  _ _  h) rfl ml_X5_63 (xRoom (Nat.le_of_ble_eq_true rfl)) (Nat.le_of_ble_eq_true rfl) dX5_readWord_99 (fun μ21 n22 h => ?_)
          have h := h n22
          refine x_aload_n 1 rfl dX5_readWord_102 ?_
          refine x_ldcS 8 (i := 8) rfl dX5_readWord_103 ?_
          refine x_callVz (As := [.ref (x.2.2.2.1 8)]) (rest := []) cal_X5_readKey ins_X5_readKey sel_X5_readKey ly35 (by decide) rfl (xX5_readKey x 8 _ _ (by decide) h) rfl ml_X5_117 (xRoom (Nat.le_of_ble_eq_true rfl)) (Nat.le_of_ble_eq_true rfl) dX5_readWord_105 (fun r25 μ23 i26 n24 h => ?_)
          have h := h i26 n24
          refine x_ifeq (tgt := 121) (xIz i26)  dX5_readWord_108 (by decide) (fun k27 => ?_) (fun k27 => ?_)
          · have h := h.1 k27
            refine x_iconst dX5_readWord_121 ?_
            exact x_zret h (Or.inl rfl) rfl dX5_readWord_122
          · have h := h.2 (xz1 i26 k27)
            refine x_aload_n 1 rfl dX5_readWord_111 ?_
            refine x_iconst dX5_readWord_112 ?_
            refine x_bipush dX5_readWord_113 (by decide) ?_
            refine x_callVz (As := [iV 0, iV 99]) (rest := []) cal_X5_readWhole ins_X5_readWhole sel_X5_readWhole ly35 (by decide) rfl (xX5_readWhole x 0 99 _ _ ⟨by decide, by decide⟩ ⟨by decide, by decide⟩ h) rfl ml_X5_120 (xRoom (Nat.le_of_ble_eq_true rfl)) (Nat.le_of_ble_eq_true rfl) dX5_readWord_115 (fun r30 μ28 i31 n29 h => ?_)
            have h := h i31 n29
            refine x_ifne (tgt := 123) (xIz i31)  dX5_readWord_118 (by decide) (fun k32 => ?_) (fun k32 => ?_)
            · have h := h.1 (xz1 i31 k32)
              refine x_aload_n 1 rfl dX5_readWord_123 ?_
              refine x_getR (j := 6) (r := 1) ly35 (by decide) rfl rfl (by decide) inT5 fl_X5_21 dX5_readWord_124 ?_
              refine x_iload_n 0 rfl dX5_readWord_127 ?_
              refine x_aload_n 1 rfl dX5_readWord_128 ?_
              refine x_getI (j := 13) ly35 (by decide) rfl rfl (by decide) inT5 fl_X5_124 dX5_readWord_129 (fun r33 => ?_)
              obtain ⟨c34, h⟩ := h
              refine x_callVv (As := [iV ((μ18 1 3) - 1), iV (μ28 35 13)]) (rest := []) cal_X2_setValue ins_X2_setValue sel_X2_setValue ly1 (by decide) rfl (xX2_setValue x 1 ((μ18 1 3) - 1) (μ28 35 13) _ _ isHouse_1 c34 r33 h) rfl ml_X5_159 (xRoom (Nat.le_of_ble_eq_true rfl)) (Nat.le_of_ble_eq_true rfl) dX5_readWord_132 (fun μ35 n36 h => ?_)
              have h := h n36
              refine x_aload_n 1 rfl dX5_readWord_135 ?_
              refine x_ldcS 9 (i := 9) rfl dX5_readWord_136 ?_
              refine x_callVz (As := [.ref (x.2.2.2.1 9)]) (rest := []) cal_X5_reads ins_X5_reads sel_X5_reads ly35 (by decide) rfl (xX5_reads x 9 _ _ (by decide) h) rfl ml_X5_88 (xRoom (Nat.le_of_ble_eq_true rfl)) (Nat.le_of_ble_eq_true rfl) dX5_readWord_138 (fun r39 μ37 i40 n38 h => ?_)
              have h := h i40 n38
              refine x_ifeq (tgt := 157) (xIz i40)  dX5_readWord_141 (by decide) (fun k41 => ?_) (fun k41 => ?_)
              · have h := h.1 k41
                refine x_iconst dX5_readWord_157 ?_
                exact x_zret h (Or.inr rfl) rfl dX5_readWord_158
              · have h := h.2 (xz1 i40 k41)
                refine x_aload_n 1 rfl dX5_readWord_144 ?_
                refine x_getR (j := 6) (r := 1) ly35 (by decide) rfl rfl (by decide) inT5 fl_X5_21 dX5_readWord_145 ?_
                refine x_iload_n 0 rfl dX5_readWord_148 ?_
                refine x_iconst dX5_readWord_149 ?_
                refine x_callVv (As := [iV ((μ18 1 3) - 1), iV 1]) (rest := []) cal_X2_setBarred ins_X2_setBarred sel_X2_setBarred ly1 (by decide) rfl (xX2_setBarred x 1 ((μ18 1 3) - 1) 1 _ _ isHouse_1 c34 (Or.inr rfl) h) rfl ml_X5_165 (xRoom (Nat.le_of_ble_eq_true rfl)) (Nat.le_of_ble_eq_true rfl) dX5_readWord_150 (fun μ42 n43 h => ?_)
                have h := h n43
                refine x_aload_n 1 rfl dX5_readWord_153 ?_
                refine x_callVv (As := []) (rest := []) cal_X5_next ins_X5_next sel_X5_next ly35 (by decide) rfl (xX5_next x  _ _  h) rfl ml_X5_63 (xRoom (Nat.le_of_ble_eq_true rfl)) (Nat.le_of_ble_eq_true rfl) dX5_readWord_154 (fun μ44 n45 h => ?_)
                have h := h n45
                refine x_iconst dX5_readWord_157 ?_
                exact x_zret h (Or.inr rfl) rfl dX5_readWord_158
            · have h := h.2 k32
              refine x_iconst dX5_readWord_121 ?_
              exact x_zret h (Or.inl rfl) rfl dX5_readWord_122
        · have h := h.2 k15
          refine x_aload_n 0 rfl dX5_readWord_63 ?_
          refine x_iconst dX5_readWord_64 ?_
          refine x_callVz (As := [iV 4]) (rest := []) cal_X5_fails ins_X5_fails sel_X5_fails ly35 (by decide) rfl (xX5_fails x 4 _ _ ⟨by decide, by decide⟩ h) rfl ml_X5_76 (xRoom (Nat.le_of_ble_eq_true rfl)) (Nat.le_of_ble_eq_true rfl) dX5_readWord_65 (fun r48 μ46 i49 n47 h => ?_)
          have h := h i49 n47
          exact x_zret h i49 rfl dX5_readWord_68
      · have h := h.2 k11
        refine x_aload_n 0 rfl dX5_readWord_43 ?_
        refine x_iconst dX5_readWord_44 ?_
        refine x_callVz (As := [iV 3]) (rest := []) cal_X5_fails ins_X5_fails sel_X5_fails ly35 (by decide) rfl (xX5_fails x 3 _ _ ⟨by decide, by decide⟩ h) rfl ml_X5_76 (xRoom (Nat.le_of_ble_eq_true rfl)) (Nat.le_of_ble_eq_true rfl) dX5_readWord_45 (fun r52 μ50 i53 n51 h => ?_)
        have h := h i53 n51
        exact x_zret h i53 rfl dX5_readWord_48
    · have h := h.2 k6
      refine x_aload_n 0 rfl dX5_readWord_30 ?_
      refine x_iconst dX5_readWord_31 ?_
      refine x_callVz (As := [iV 1]) (rest := []) cal_X5_fails ins_X5_fails sel_X5_fails ly35 (by decide) rfl (xX5_fails x 1 _ _ ⟨by decide, by decide⟩ h) rfl ml_X5_76 (xRoom (Nat.le_of_ble_eq_true rfl)) (Nat.le_of_ble_eq_true rfl) dX5_readWord_32 (fun r56 μ54 i57 n55 h => ?_)
      have h := h i57 n55
      exact x_zret h i57 rfl dX5_readWord_35
  · have h := h.2 k2
    refine x_aload_n 0 rfl dX5_readWord_12 ?_
    refine x_iconst dX5_readWord_13 ?_
    refine x_callVz (As := [iV 5]) (rest := []) cal_X5_fails ins_X5_fails sel_X5_fails ly35 (by decide) rfl (xX5_fails x 5 _ _ ⟨by decide, by decide⟩ h) rfl ml_X5_76 (xRoom (Nat.le_of_ble_eq_true rfl)) (Nat.le_of_ble_eq_true rfl) dX5_readWord_14 (fun r60 μ58 i61 n59 h => ?_)
    have h := h i61 n59
    exact x_zret h i61 rfl dX5_readWord_17
set_option maxRecDepth 100000 in
set_option maxHeartbeats 4000000 in
theorem xX5_isNameHere (x : xX) (p1 : Int) (p2 : Int) (μ : xM) (Q : Int → xM → Prop) (hp1 : xIn p1) (hp2 : xIn p2) (h : tX5_isNameHere p1 p2 μ Q) : xMet x 2 yX5_isNameHere cX5_isNameHere 4 (some .boolean) [.ref (x.2.2.1 + 35), iV p1, iV p2] μ (xQz x Q) := by
  refine xMet_of (by decide +kernel) (Nat.le_of_ble_eq_true rfl) ?_
  show xW x (xRm 2, RX5, cX5_isNameHere, 4, (some .boolean), fun _ _ => True) (xQz x Q) 0 [(0, .ref (x.2.2.1 + 35)), (1, iV p1), (2, iV p2)] [] μ
  refine x_ran (fun n0 => ?_)
  have h := h n0 hp1 hp2
  refine x_iload_n 2 rfl dX5_isNameHere_0 ?_
  refine x_iload_n 1 rfl dX5_isNameHere_1 ?_
  refine x_isub dX5_isNameHere_2 ?_
  refine x_aload_n 0 rfl dX5_isNameHere_3 ?_
  refine x_getI (j := 12) ly35 (by decide) rfl rfl (by decide) inT5 fl_X5_60 dX5_isNameHere_4 (fun r1 => ?_)
  refine x_aload_n 0 rfl dX5_isNameHere_7 ?_
  refine x_getI (j := 11) ly35 (by decide) rfl rfl (by decide) inT5 fl_X5_150 dX5_isNameHere_8 (fun r2 => ?_)
  refine x_isub dX5_isNameHere_11 ?_
  obtain ⟨c3, h⟩ := h
  obtain ⟨c4, h⟩ := h
  refine x_icmpeq (tgt := 17) c3 c4 dX5_isNameHere_12 (by decide) (fun k5 => ?_) (fun k5 => ?_)
  · have h := h.1 k5
    refine x_iload_n 1 rfl dX5_isNameHere_17 ?_
    refine x_istore_n [(3, iV p1), (0, .ref (x.2.2.1 + 35)), (1, iV p1), (2, iV p2)] dX5_isNameHere_18 (show 3 < 4 by decide) rfl ?_
    refine x_sub [1, 2, 3, 0] rfl ?_
    refine x_loop1 (fun l3_6 => [(0, .ref (x.2.2.1 + 35)), (1, iV p1), (2, iV p2), (3, iV l3_6)]) h (fun J19 l3_6 μ7 hJ19 h n8 => ?_)
    refine x_iload_n 3 rfl dX5_isNameHere_19 ?_
    refine x_iload_n 2 rfl dX5_isNameHere_20 ?_
    obtain ⟨c9, h⟩ := h
    refine x_icmpge (tgt := 52) c9 hp2 dX5_isNameHere_21 (by decide) (fun k10 => ?_) (fun k10 => ?_)
    · have h := h.1 k10
      refine x_iconst dX5_isNameHere_52 ?_
      exact x_zret h (Or.inr rfl) rfl dX5_isNameHere_53
    · have h := h.2 k10
      refine x_aload_n 0 rfl dX5_isNameHere_24 ?_
      refine x_iload_n 3 rfl dX5_isNameHere_25 ?_
      refine x_callVi (As := [iV l3_6]) (rest := []) cal_X5_byteAt ins_X5_byteAt sel_X5_byteAt ly35 (by decide) rfl (xX5_byteAt x l3_6 _ _ c9 h) rfl ml_X5_172 (xRoom (Nat.le_of_ble_eq_true rfl)) (Nat.le_of_ble_eq_true rfl) dX5_isNameHere_26 (fun r13 μ11 i14 n12 h => ?_)
      have h := h i14 n12
      refine x_aload_n 0 rfl dX5_isNameHere_29 ?_
      refine x_aload_n 0 rfl dX5_isNameHere_30 ?_
      refine x_getI (j := 11) ly35 (by decide) rfl rfl (by decide) inT5 fl_X5_150 dX5_isNameHere_31 (fun r15 => ?_)
      refine x_iload_n 3 rfl dX5_isNameHere_34 ?_
      refine x_iadd dX5_isNameHere_35 ?_
      refine x_iload_n 1 rfl dX5_isNameHere_36 ?_
      refine x_isub dX5_isNameHere_37 ?_
      obtain ⟨c16, h⟩ := h
      refine x_callVi (As := [iV (((μ11 35 11) + l3_6) - p1)]) (rest := [iV r13]) cal_X5_byteAt ins_X5_byteAt sel_X5_byteAt ly35 (by decide) rfl (xX5_byteAt x (((μ11 35 11) + l3_6) - p1) _ _ c16 h) rfl ml_X5_172 (xRoom (Nat.le_of_ble_eq_true rfl)) (Nat.le_of_ble_eq_true rfl) dX5_isNameHere_38 (fun r19 μ17 i20 n18 h => ?_)
      have h := h i20 n18
      refine x_icmpeq (tgt := 46) i14 i20 dX5_isNameHere_41 (by decide) (fun k21 => ?_) (fun k21 => ?_)
      · have h := h.1 k21
        refine x_iinc 3 rfl [(3, iV (l3_6 + 1)), (0, .ref (x.2.2.1 + 35)), (1, iV p1), (2, iV p2)] dX5_isNameHere_46 (show 3 < 4 by decide) rfl ?_
        refine x_goto (tgt := 19) dX5_isNameHere_49 (by decide) ?_
        exact x_sub [1, 2, 3, 0] rfl (hJ19 _ _ h)
      · have h := h.2 k21
        refine x_iconst dX5_isNameHere_44 ?_
        exact x_zret h (Or.inl rfl) rfl dX5_isNameHere_45
  · have h := h.2 k5
    refine x_iconst dX5_isNameHere_15 ?_
    exact x_zret h (Or.inl rfl) rfl dX5_isNameHere_16
set_option maxRecDepth 100000 in
set_option maxHeartbeats 4000000 in
theorem xX5_isNamed (x : xX)  (μ : xM) (Q : Int → xM → Prop)  (h : tX5_isNamed  μ Q) : xMet x 3 yX5_isNamed cX5_isNamed 2 (some .boolean) [.ref (x.2.2.1 + 35)] μ (xQz x Q) := by
  refine xMet_of (by decide +kernel) (Nat.le_of_ble_eq_true rfl) ?_
  show xW x (xRm 3, RX5, cX5_isNamed, 2, (some .boolean), fun _ _ => True) (xQz x Q) 0 [(0, .ref (x.2.2.1 + 35))] [] μ
  refine x_ran (fun n0 => ?_)
  have h := h n0 
  refine x_iconst dX5_isNamed_0 ?_
  refine x_istore_n [(1, iV 0), (0, .ref (x.2.2.1 + 35))] dX5_isNamed_1 (show 1 < 2 by decide) rfl ?_
  refine x_sub [1, 0] rfl ?_
  refine x_loop1 (fun l1_1 => [(0, .ref (x.2.2.1 + 35)), (1, iV l1_1)]) h (fun J2 l1_1 μ2 hJ2 h n3 => ?_)
  refine x_iload_n 1 rfl dX5_isNamed_2 ?_
  refine x_aload_n 0 rfl dX5_isNamed_3 ?_
  refine x_getR (j := 6) (r := 1) ly35 (by decide) rfl rfl (by decide) inT5 fl_X5_21 dX5_isNamed_4 ?_
  refine x_getI (j := 4) ly1 (by decide) rfl rfl (by decide) inT2 fl_X5_83 dX5_isNamed_7 (fun r4 => ?_)
  obtain ⟨c5, h⟩ := h
  refine x_icmpge (tgt := 46) c5 r4 dX5_isNamed_10 (by decide) (fun k6 => ?_) (fun k6 => ?_)
  · have h := h.1 k6
    refine x_iconst dX5_isNamed_46 ?_
    exact x_zret h (Or.inl rfl) rfl dX5_isNamed_47
  · have h := h.2 k6
    refine x_iload_n 1 rfl dX5_isNamed_13 ?_
    refine x_bipush dX5_isNamed_14 (by decide) ?_
    refine x_icmpge (tgt := 46) c5 ⟨by decide, by decide⟩ dX5_isNamed_16 (by decide) (fun k7 => ?_) (fun k7 => ?_)
    · have h := h.1 k7
      refine x_iconst dX5_isNamed_46 ?_
      exact x_zret h (Or.inl rfl) rfl dX5_isNamed_47
    · have h := h.2 k7
      refine x_aload_n 0 rfl dX5_isNamed_19 ?_
      refine x_aload_n 0 rfl dX5_isNamed_20 ?_
      refine x_getR (j := 4) (r := 37) ly35 (by decide) rfl rfl (by decide) inT5 fl_X5_15 dX5_isNamed_21 ?_
      refine x_iload_n 1 rfl dX5_isNamed_24 ?_
      obtain ⟨c8, h⟩ := h
      refine x_iald ly37 c8.1 c8.2 (xIb (n := 8) c8 (by decide)) (by decide) dX5_isNamed_25 (fun r9 => ?_)
      refine x_aload_n 0 rfl dX5_isNamed_26 ?_
      refine x_getR (j := 5) (r := 38) ly35 (by decide) rfl rfl (by decide) inT5 fl_X5_18 dX5_isNamed_27 ?_
      refine x_iload_n 1 rfl dX5_isNamed_30 ?_
      refine x_iald ly38 c8.1 c8.2 (xIb (n := 8) c8 (by decide)) (by decide) dX5_isNamed_31 (fun r10 => ?_)
      refine x_callVz (As := [iV (μ2 37 l1_1.toNat), iV (μ2 38 l1_1.toNat)]) (rest := []) cal_X5_isNameHere ins_X5_isNameHere sel_X5_isNameHere ly35 (by decide) rfl (xX5_isNameHere x (μ2 37 l1_1.toNat) (μ2 38 l1_1.toNat) _ _ r9 r10 h) rfl ml_X5_212 (xRoom (Nat.le_of_ble_eq_true rfl)) (Nat.le_of_ble_eq_true rfl) dX5_isNamed_32 (fun r13 μ11 i14 n12 h => ?_)
      have h := h i14 n12
      refine x_ifeq (tgt := 40) (xIz i14)  dX5_isNamed_35 (by decide) (fun k15 => ?_) (fun k15 => ?_)
      · have h := h.1 k15
        refine x_iinc 1 rfl [(1, iV (l1_1 + 1)), (0, .ref (x.2.2.1 + 35))] dX5_isNamed_40 (show 1 < 2 by decide) rfl ?_
        refine x_goto (tgt := 2) dX5_isNamed_43 (by decide) ?_
        exact x_sub [1, 0] rfl (hJ2 _ _ h)
      · have h := h.2 (xz1 i14 k15)
        refine x_iconst dX5_isNamed_38 ?_
        exact x_zret h (Or.inr rfl) rfl dX5_isNamed_39
set_option maxRecDepth 100000 in
set_option maxHeartbeats 4000000 in
theorem xX5_readGuests (x : xX)  (μ : xM) (Q : Int → xM → Prop)  (h : tX5_readGuests  μ Q) : xMet x 4 yX5_readGuests cX5_readGuests 2 (some .boolean) [.ref (x.2.2.1 + 35)] μ (xQz x Q) := by
  refine xMet_of (by decide +kernel) (Nat.le_of_ble_eq_true rfl) ?_
  show xW x (xRm 4, RX5, cX5_readGuests, 2, (some .boolean), fun _ _ => True) (xQz x Q) 0 [(0, .ref (x.2.2.1 + 35))] [] μ
  refine x_ran (fun n0 => ?_)
  have h := h n0 
  refine x_iconst dX5_readGuests_0 ?_
  refine x_istore_n [(1, iV 0), (0, .ref (x.2.2.1 + 35))] dX5_readGuests_1 (show 1 < 2 by decide) rfl ?_
  refine x_sub [1, 0] rfl ?_
  refine x_loop1 (fun l1_1 => [(0, .ref (x.2.2.1 + 35)), (1, iV l1_1)]) h (fun J2 l1_1 μ2 hJ2 h n3 => ?_)
  refine x_iload_n 1 rfl dX5_readGuests_2 ?_
  refine x_bipush dX5_readGuests_3 (by decide) ?_
  obtain ⟨c4, h⟩ := h
  refine x_icmpgt (tgt := 127) c4 ⟨by decide, by decide⟩ dX5_readGuests_5 (by decide) (fun k5 => ?_) (fun k5 => ?_)
  · have h := h.1 k5
    refine x_aload_n 0 rfl dX5_readGuests_127 ?_
    refine x_iconst dX5_readGuests_128 ?_
    refine x_callVz (As := [iV 5]) (rest := []) cal_X5_fails ins_X5_fails sel_X5_fails ly35 (by decide) rfl (xX5_fails x 5 _ _ ⟨by decide, by decide⟩ h) rfl ml_X5_76 (xRoom (Nat.le_of_ble_eq_true rfl)) (Nat.le_of_ble_eq_true rfl) dX5_readGuests_129 (fun r8 μ6 i9 n7 h => ?_)
    have h := h i9 n7
    exact x_zret h i9 rfl dX5_readGuests_132
  · have h := h.2 k5
    refine x_aload_n 0 rfl dX5_readGuests_8 ?_
    refine x_callVv (As := []) (rest := []) cal_X5_next ins_X5_next sel_X5_next ly35 (by decide) rfl (xX5_next x  _ _  h) rfl ml_X5_63 (xRoom (Nat.le_of_ble_eq_true rfl)) (Nat.le_of_ble_eq_true rfl) dX5_readGuests_9 (fun μ10 n11 h => ?_)
    have h := h n11
    refine x_aload_n 0 rfl dX5_readGuests_12 ?_
    refine x_getI (j := 10) ly35 (by decide) rfl rfl (by decide) inT5 fl_X5_70 dX5_readGuests_13 (fun r12 => ?_)
    refine x_iconst dX5_readGuests_16 ?_
    refine x_icmpeq (tgt := 26) r12 ⟨by decide, by decide⟩ dX5_readGuests_17 (by decide) (fun k13 => ?_) (fun k13 => ?_)
    · have h := h.1 k13
      refine x_aload_n 0 rfl dX5_readGuests_26 ?_
      refine x_callVz (As := []) (rest := []) cal_X5_isNamed ins_X5_isNamed sel_X5_isNamed ly35 (by decide) rfl (xX5_isNamed x  _ _  h) rfl ml_X5_169 (xRoom (Nat.le_of_ble_eq_true rfl)) (Nat.le_of_ble_eq_true rfl) dX5_readGuests_27 (fun r16 μ14 i17 n15 h => ?_)
      have h := h i17 n15
      refine x_ifeq (tgt := 39) (xIz i17)  dX5_readGuests_30 (by decide) (fun k18 => ?_) (fun k18 => ?_)
      · have h := h.1 k18
        refine x_aload_n 0 rfl dX5_readGuests_39 ?_
        refine x_getR (j := 6) (r := 1) ly35 (by decide) rfl rfl (by decide) inT5 fl_X5_21 dX5_readGuests_40 ?_
        refine x_getI (j := 4) ly1 (by decide) rfl rfl (by decide) inT2 fl_X5_83 dX5_readGuests_43 (fun r19 => ?_)
        refine x_bipush dX5_readGuests_46 (by decide) ?_
        refine x_icmplt (tgt := 57) r19 ⟨by decide, by decide⟩ dX5_readGuests_48 (by decide) (fun k20 => ?_) (fun k20 => ?_)
        · have h := h.1 k20
          refine x_aload_n 0 rfl dX5_readGuests_57 ?_
          refine x_getR (j := 4) (r := 37) ly35 (by decide) rfl rfl (by decide) inT5 fl_X5_15 dX5_readGuests_58 ?_
          refine x_aload_n 0 rfl dX5_readGuests_61 ?_
          refine x_getR (j := 6) (r := 1) ly35 (by decide) rfl rfl (by decide) inT5 fl_X5_21 dX5_readGuests_62 ?_
          refine x_getI (j := 4) ly1 (by decide) rfl rfl (by decide) inT2 fl_X5_83 dX5_readGuests_65 (fun r21 => ?_)
          refine x_aload_n 0 rfl dX5_readGuests_68 ?_
          refine x_getI (j := 11) ly35 (by decide) rfl rfl (by decide) inT5 fl_X5_150 dX5_readGuests_69 (fun r22 => ?_)
          obtain ⟨c23, h⟩ := h
          refine x_iast ly37 c23.1 c23.2 r21 r22 (by decide) dX5_readGuests_72 (fun μ24 e26 n25 => ?_)
          have h := h μ24 e26 n25
          refine x_aload_n 0 rfl dX5_readGuests_73 ?_
          refine x_getR (j := 5) (r := 38) ly35 (by decide) rfl rfl (by decide) inT5 fl_X5_18 dX5_readGuests_74 ?_
          refine x_aload_n 0 rfl dX5_readGuests_77 ?_
          refine x_getR (j := 6) (r := 1) ly35 (by decide) rfl rfl (by decide) inT5 fl_X5_21 dX5_readGuests_78 ?_
          refine x_getI (j := 4) ly1 (by decide) rfl rfl (by decide) inT2 fl_X5_83 dX5_readGuests_81 (fun r27 => ?_)
          refine x_aload_n 0 rfl dX5_readGuests_84 ?_
          refine x_getI (j := 12) ly35 (by decide) rfl rfl (by decide) inT5 fl_X5_60 dX5_readGuests_85 (fun r28 => ?_)
          obtain ⟨c29, h⟩ := h
          refine x_iast ly38 c29.1 c29.2 r27 r28 (by decide) dX5_readGuests_88 (fun μ30 e32 n31 => ?_)
          have h := h μ30 e32 n31
          refine x_aload_n 0 rfl dX5_readGuests_89 ?_
          refine x_getR (j := 6) (r := 1) ly35 (by decide) rfl rfl (by decide) inT5 fl_X5_21 dX5_readGuests_90 ?_
          refine x_aload_n 0 rfl dX5_readGuests_93 ?_
          refine x_aload_n 0 rfl dX5_readGuests_94 ?_
          refine x_getI (j := 11) ly35 (by decide) rfl rfl (by decide) inT5 fl_X5_150 dX5_readGuests_95 (fun r33 => ?_)
          refine x_callVi (As := [iV (μ30 35 11)]) (rest := [.ref (x.2.2.1 + 1)]) cal_X5_byteAt ins_X5_byteAt sel_X5_byteAt ly35 (by decide) rfl (xX5_byteAt x (μ30 35 11) _ _ r33 h) rfl ml_X5_172 (xRoom (Nat.le_of_ble_eq_true rfl)) (Nat.le_of_ble_eq_true rfl) dX5_readGuests_98 (fun r36 μ34 i37 n35 h => ?_)
          have h := h i37 n35
          refine x_bipush dX5_readGuests_101 (by decide) ?_
          refine x_isub dX5_readGuests_103 ?_
          obtain ⟨c38, h⟩ := h
          refine x_callVv (As := [iV (r36 - 97)]) (rest := []) cal_X2_addGuest ins_X2_addGuest sel_X2_addGuest ly1 (by decide) rfl (xX2_addGuest x 1 (r36 - 97) _ _ isHouse_1 c38 h) rfl ml_X5_176 (xRoom (Nat.le_of_ble_eq_true rfl)) (Nat.le_of_ble_eq_true rfl) dX5_readGuests_104 (fun μ39 n40 h => ?_)
          have h := h n40
          refine x_aload_n 0 rfl dX5_readGuests_107 ?_
          refine x_callVv (As := []) (rest := []) cal_X5_next ins_X5_next sel_X5_next ly35 (by decide) rfl (xX5_next x  _ _  h) rfl ml_X5_63 (xRoom (Nat.le_of_ble_eq_true rfl)) (Nat.le_of_ble_eq_true rfl) dX5_readGuests_108 (fun μ41 n42 h => ?_)
          have h := h n42
          refine x_aload_n 0 rfl dX5_readGuests_111 ?_
          refine x_getI (j := 10) ly35 (by decide) rfl rfl (by decide) inT5 fl_X5_70 dX5_readGuests_112 (fun r43 => ?_)
          refine x_iconst dX5_readGuests_115 ?_
          refine x_icmpeq (tgt := 121) r43 ⟨by decide, by decide⟩ dX5_readGuests_116 (by decide) (fun k44 => ?_) (fun k44 => ?_)
          · have h := h.1 k44
            refine x_iinc 1 rfl [(1, iV (l1_1 + 1)), (0, .ref (x.2.2.1 + 35))] dX5_readGuests_121 (show 1 < 2 by decide) rfl ?_
            refine x_goto (tgt := 2) dX5_readGuests_124 (by decide) ?_
            exact x_sub [1, 0] rfl (hJ2 _ _ h)
          · have h := h.2 k44
            refine x_iconst dX5_readGuests_119 ?_
            exact x_zret h (Or.inr rfl) rfl dX5_readGuests_120
        · have h := h.2 k20
          refine x_aload_n 0 rfl dX5_readGuests_51 ?_
          refine x_iconst dX5_readGuests_52 ?_
          refine x_callVz (As := [iV 5]) (rest := []) cal_X5_fails ins_X5_fails sel_X5_fails ly35 (by decide) rfl (xX5_fails x 5 _ _ ⟨by decide, by decide⟩ h) rfl ml_X5_76 (xRoom (Nat.le_of_ble_eq_true rfl)) (Nat.le_of_ble_eq_true rfl) dX5_readGuests_53 (fun r47 μ45 i48 n46 h => ?_)
          have h := h i48 n46
          exact x_zret h i48 rfl dX5_readGuests_56
      · have h := h.2 (xz1 i17 k18)
        refine x_aload_n 0 rfl dX5_readGuests_33 ?_
        refine x_iconst dX5_readGuests_34 ?_
        refine x_callVz (As := [iV 3]) (rest := []) cal_X5_fails ins_X5_fails sel_X5_fails ly35 (by decide) rfl (xX5_fails x 3 _ _ ⟨by decide, by decide⟩ h) rfl ml_X5_76 (xRoom (Nat.le_of_ble_eq_true rfl)) (Nat.le_of_ble_eq_true rfl) dX5_readGuests_35 (fun r51 μ49 i52 n50 h => ?_)
        have h := h i52 n50
        exact x_zret h i52 rfl dX5_readGuests_38
    · have h := h.2 k13
      refine x_aload_n 0 rfl dX5_readGuests_20 ?_
      refine x_iconst dX5_readGuests_21 ?_
      refine x_callVz (As := [iV 1]) (rest := []) cal_X5_fails ins_X5_fails sel_X5_fails ly35 (by decide) rfl (xX5_fails x 1 _ _ ⟨by decide, by decide⟩ h) rfl ml_X5_76 (xRoom (Nat.le_of_ble_eq_true rfl)) (Nat.le_of_ble_eq_true rfl) dX5_readGuests_22 (fun r55 μ53 i56 n54 h => ?_)
      have h := h i56 n54
      exact x_zret h i56 rfl dX5_readGuests_25
set_option maxRecDepth 100000 in
set_option maxHeartbeats 4000000 in
theorem xX5_readLikely (x : xX)  (μ : xM) (Q : Int → xM → Prop)  (h : tX5_readLikely  μ Q) : xMet x 5 yX5_readLikely cX5_readLikely 3 (some .boolean) [.ref (x.2.2.1 + 35)] μ (xQz x Q) := by
  refine xMet_of (by decide +kernel) (Nat.le_of_ble_eq_true rfl) ?_
  show xW x (xRm 5, RX5, cX5_readLikely, 3, (some .boolean), fun _ _ => True) (xQz x Q) 0 [(0, .ref (x.2.2.1 + 35))] [] μ
  refine x_ran (fun n0 => ?_)
  have h := h n0 
  refine x_aload_n 0 rfl dX5_readLikely_0 ?_
  refine x_getR (j := 6) (r := 1) ly35 (by decide) rfl rfl (by decide) inT5 fl_X5_21 dX5_readLikely_1 ?_
  refine x_getI (j := 5) ly1 (by decide) rfl rfl (by decide) inT2 fl_X5_179 dX5_readLikely_4 (fun r1 => ?_)
  refine x_bipush dX5_readLikely_7 (by decide) ?_
  refine x_icmplt (tgt := 18) r1 ⟨by decide, by decide⟩ dX5_readLikely_9 (by decide) (fun k2 => ?_) (fun k2 => ?_)
  · have h := h.1 k2
    refine x_aload_n 0 rfl dX5_readLikely_18 ?_
    refine x_callVv (As := []) (rest := []) cal_X5_next ins_X5_next sel_X5_next ly35 (by decide) rfl (xX5_next x  _ _  h) rfl ml_X5_63 (xRoom (Nat.le_of_ble_eq_true rfl)) (Nat.le_of_ble_eq_true rfl) dX5_readLikely_19 (fun μ3 n4 h => ?_)
    have h := h n4
    refine x_aload_n 0 rfl dX5_readLikely_22 ?_
    refine x_getI (j := 10) ly35 (by decide) rfl rfl (by decide) inT5 fl_X5_70 dX5_readLikely_23 (fun r5 => ?_)
    refine x_iconst dX5_readLikely_26 ?_
    refine x_icmpeq (tgt := 36) r5 ⟨by decide, by decide⟩ dX5_readLikely_27 (by decide) (fun k6 => ?_) (fun k6 => ?_)
    · have h := h.1 k6
      refine x_aload_n 0 rfl dX5_readLikely_36 ?_
      refine x_getI (j := 12) ly35 (by decide) rfl rfl (by decide) inT5 fl_X5_60 dX5_readLikely_37 (fun r7 => ?_)
      refine x_aload_n 0 rfl dX5_readLikely_40 ?_
      refine x_getI (j := 11) ly35 (by decide) rfl rfl (by decide) inT5 fl_X5_150 dX5_readLikely_41 (fun r8 => ?_)
      refine x_isub dX5_readLikely_44 ?_
      refine x_iconst dX5_readLikely_45 ?_
      obtain ⟨c9, h⟩ := h
      refine x_icmple (tgt := 55) c9 ⟨by decide, by decide⟩ dX5_readLikely_46 (by decide) (fun k10 => ?_) (fun k10 => ?_)
      · have h := h.1 k10
        refine x_aload_n 0 rfl dX5_readLikely_55 ?_
        refine x_aload_n 0 rfl dX5_readLikely_56 ?_
        refine x_getI (j := 11) ly35 (by decide) rfl rfl (by decide) inT5 fl_X5_150 dX5_readLikely_57 (fun r11 => ?_)
        refine x_callVi (As := [iV (μ3 35 11)]) (rest := []) cal_X5_byteAt ins_X5_byteAt sel_X5_byteAt ly35 (by decide) rfl (xX5_byteAt x (μ3 35 11) _ _ r11 h) rfl ml_X5_172 (xRoom (Nat.le_of_ble_eq_true rfl)) (Nat.le_of_ble_eq_true rfl) dX5_readLikely_60 (fun r14 μ12 i15 n13 h => ?_)
        have h := h i15 n13
        refine x_bipush dX5_readLikely_63 (by decide) ?_
        refine x_isub dX5_readLikely_65 ?_
        refine x_istore_n [(1, iV (r14 - 97)), (0, .ref (x.2.2.1 + 35))] dX5_readLikely_66 (show 1 < 3 by decide) rfl ?_
        refine x_iconst dX5_readLikely_67 ?_
        refine x_istore_n [(2, iV 0), (1, iV (r14 - 97)), (0, .ref (x.2.2.1 + 35))] dX5_readLikely_68 (show 2 < 3 by decide) rfl ?_
        refine x_sub [2, 1, 0] rfl ?_
        refine x_loop1 (fun l2_16 => [(0, .ref (x.2.2.1 + 35)), (1, iV (r14 - 97)), (2, iV l2_16)]) h (fun J69 l2_16 μ17 hJ69 h n18 => ?_)
        refine x_iload_n 2 rfl dX5_readLikely_69 ?_
        refine x_aload_n 0 rfl dX5_readLikely_70 ?_
        refine x_getR (j := 6) (r := 1) ly35 (by decide) rfl rfl (by decide) inT5 fl_X5_21 dX5_readLikely_71 ?_
        refine x_getI (j := 5) ly1 (by decide) rfl rfl (by decide) inT2 fl_X5_179 dX5_readLikely_74 (fun r19 => ?_)
        obtain ⟨c20, h⟩ := h
        refine x_icmpge (tgt := 104) c20 r19 dX5_readLikely_77 (by decide) (fun k21 => ?_) (fun k21 => ?_)
        · have h := h.1 k21
          refine x_aload_n 0 rfl dX5_readLikely_104 ?_
          refine x_callVv (As := []) (rest := []) cal_X5_next ins_X5_next sel_X5_next ly35 (by decide) rfl (xX5_next x  _ _  h) rfl ml_X5_63 (xRoom (Nat.le_of_ble_eq_true rfl)) (Nat.le_of_ble_eq_true rfl) dX5_readLikely_105 (fun μ22 n23 h => ?_)
          have h := h n23
          refine x_aload_n 0 rfl dX5_readLikely_108 ?_
          refine x_iconst dX5_readLikely_109 ?_
          refine x_bipush dX5_readLikely_110 (by decide) ?_
          refine x_callVz (As := [iV 1, iV 9]) (rest := []) cal_X5_readWhole ins_X5_readWhole sel_X5_readWhole ly35 (by decide) rfl (xX5_readWhole x 1 9 _ _ ⟨by decide, by decide⟩ ⟨by decide, by decide⟩ h) rfl ml_X5_120 (xRoom (Nat.le_of_ble_eq_true rfl)) (Nat.le_of_ble_eq_true rfl) dX5_readLikely_112 (fun r26 μ24 i27 n25 h => ?_)
          have h := h i27 n25
          refine x_ifne (tgt := 120) (xIz i27)  dX5_readLikely_115 (by decide) (fun k28 => ?_) (fun k28 => ?_)
          · have h := h.1 (xz1 i27 k28)
            refine x_aload_n 0 rfl dX5_readLikely_120 ?_
            refine x_getR (j := 6) (r := 1) ly35 (by decide) rfl rfl (by decide) inT5 fl_X5_21 dX5_readLikely_121 ?_
            refine x_iload_n 1 rfl dX5_readLikely_124 ?_
            refine x_aload_n 0 rfl dX5_readLikely_125 ?_
            refine x_getI (j := 13) ly35 (by decide) rfl rfl (by decide) inT5 fl_X5_124 dX5_readLikely_126 (fun r29 => ?_)
            obtain ⟨c30, h⟩ := h
            refine x_callVv (As := [iV (r14 - 97), iV (μ24 35 13)]) (rest := []) cal_X2_addLikely ins_X2_addLikely sel_X2_addLikely ly1 (by decide) rfl (xX2_addLikely x 1 (r14 - 97) (μ24 35 13) _ _ isHouse_1 c30 r29 h) rfl ml_X5_185 (xRoom (Nat.le_of_ble_eq_true rfl)) (Nat.le_of_ble_eq_true rfl) dX5_readLikely_129 (fun μ31 n32 h => ?_)
            have h := h n32
            refine x_iconst dX5_readLikely_132 ?_
            exact x_zret h (Or.inr rfl) rfl dX5_readLikely_133
          · have h := h.2 k28
            refine x_iconst dX5_readLikely_118 ?_
            exact x_zret h (Or.inl rfl) rfl dX5_readLikely_119
        · have h := h.2 k21
          refine x_aload_n 0 rfl dX5_readLikely_80 ?_
          refine x_getR (j := 6) (r := 1) ly35 (by decide) rfl rfl (by decide) inT5 fl_X5_21 dX5_readLikely_81 ?_
          refine x_iload_n 2 rfl dX5_readLikely_84 ?_
          refine x_callVi (As := [iV l2_16]) (rest := []) cal_X2_likelyOf ins_X2_likelyOf sel_X2_likelyOf ly1 (by decide) rfl (xX2_likelyOf x 1 l2_16 _ _ isHouse_1 c20 h) rfl ml_X5_182 (xRoom (Nat.le_of_ble_eq_true rfl)) (Nat.le_of_ble_eq_true rfl) dX5_readLikely_85 (fun r35 μ33 i36 n34 h => ?_)
          have h := h i36 n34
          refine x_iload_n 1 rfl dX5_readLikely_88 ?_
          obtain ⟨c37, h⟩ := h
          refine x_icmpne (tgt := 98) i36 c37 dX5_readLikely_89 (by decide) (fun k38 => ?_) (fun k38 => ?_)
          · have h := h.1 k38
            refine x_iinc 2 rfl [(2, iV (l2_16 + 1)), (0, .ref (x.2.2.1 + 35)), (1, iV (r14 - 97))] dX5_readLikely_98 (show 2 < 3 by decide) rfl ?_
            refine x_goto (tgt := 69) dX5_readLikely_101 (by decide) ?_
            exact x_sub [1, 2, 0] rfl (hJ69 _ _ h)
          · have h := h.2 k38
            refine x_aload_n 0 rfl dX5_readLikely_92 ?_
            refine x_iconst dX5_readLikely_93 ?_
            refine x_callVz (As := [iV 3]) (rest := []) cal_X5_fails ins_X5_fails sel_X5_fails ly35 (by decide) rfl (xX5_fails x 3 _ _ ⟨by decide, by decide⟩ h) rfl ml_X5_76 (xRoom (Nat.le_of_ble_eq_true rfl)) (Nat.le_of_ble_eq_true rfl) dX5_readLikely_94 (fun r41 μ39 i42 n40 h => ?_)
            have h := h i42 n40
            exact x_zret h i42 rfl dX5_readLikely_97
      · have h := h.2 k10
        refine x_aload_n 0 rfl dX5_readLikely_49 ?_
        refine x_iconst dX5_readLikely_50 ?_
        refine x_callVz (As := [iV 4]) (rest := []) cal_X5_fails ins_X5_fails sel_X5_fails ly35 (by decide) rfl (xX5_fails x 4 _ _ ⟨by decide, by decide⟩ h) rfl ml_X5_76 (xRoom (Nat.le_of_ble_eq_true rfl)) (Nat.le_of_ble_eq_true rfl) dX5_readLikely_51 (fun r45 μ43 i46 n44 h => ?_)
        have h := h i46 n44
        exact x_zret h i46 rfl dX5_readLikely_54
    · have h := h.2 k6
      refine x_aload_n 0 rfl dX5_readLikely_30 ?_
      refine x_iconst dX5_readLikely_31 ?_
      refine x_callVz (As := [iV 1]) (rest := []) cal_X5_fails ins_X5_fails sel_X5_fails ly35 (by decide) rfl (xX5_fails x 1 _ _ ⟨by decide, by decide⟩ h) rfl ml_X5_76 (xRoom (Nat.le_of_ble_eq_true rfl)) (Nat.le_of_ble_eq_true rfl) dX5_readLikely_32 (fun r49 μ47 i50 n48 h => ?_)
      have h := h i50 n48
      exact x_zret h i50 rfl dX5_readLikely_35
  · have h := h.2 k2
    refine x_aload_n 0 rfl dX5_readLikely_12 ?_
    refine x_iconst dX5_readLikely_13 ?_
    refine x_callVz (As := [iV 5]) (rest := []) cal_X5_fails ins_X5_fails sel_X5_fails ly35 (by decide) rfl (xX5_fails x 5 _ _ ⟨by decide, by decide⟩ h) rfl ml_X5_76 (xRoom (Nat.le_of_ble_eq_true rfl)) (Nat.le_of_ble_eq_true rfl) dX5_readLikely_14 (fun r53 μ51 i54 n52 h => ?_)
    have h := h i54 n52
    exact x_zret h i54 rfl dX5_readLikely_17
set_option maxRecDepth 100000 in
set_option maxHeartbeats 4000000 in
theorem xX5_readSeen (x : xX)  (μ : xM) (Q : Int → xM → Prop)  (h : tX5_readSeen  μ Q) : xMet x 5 yX5_readSeen cX5_readSeen 3 (some .boolean) [.ref (x.2.2.1 + 35)] μ (xQz x Q) := by
  refine xMet_of (by decide +kernel) (Nat.le_of_ble_eq_true rfl) ?_
  show xW x (xRm 5, RX5, cX5_readSeen, 3, (some .boolean), fun _ _ => True) (xQz x Q) 0 [(0, .ref (x.2.2.1 + 35))] [] μ
  refine x_ran (fun n0 => ?_)
  have h := h n0 
  refine x_aload_n 0 rfl dX5_readSeen_0 ?_
  refine x_getI (j := 8) ly35 (by decide) rfl rfl (by decide) inT5 fl_X5_42 dX5_readSeen_1 (fun r1 => ?_)
  refine x_ifeq (tgt := 13) r1  dX5_readSeen_4 (by decide) (fun k2 => ?_) (fun k2 => ?_)
  · have h := h.1 k2
    refine x_aload_n 0 rfl dX5_readSeen_13 ?_
    refine x_iconst dX5_readSeen_14 ?_
    refine x_putZ (j := 8) ly35 (by decide) rfl rfl (by decide) inT5 fl_X5_42 tyX5 tyX5_ok nmX5 rfl (Or.inr rfl) (by decide +kernel) dX5_readSeen_15 (fun μ3 e5 n4 => ?_)
    have h := h μ3 e5 n4
    refine x_iconst dX5_readSeen_18 ?_
    refine x_istore_n [(1, iV 0), (0, .ref (x.2.2.1 + 35))] dX5_readSeen_19 (show 1 < 3 by decide) rfl ?_
    refine x_sub [1, 0] rfl ?_
    refine x_loop1 (fun l1_6 => [(0, .ref (x.2.2.1 + 35)), (1, iV l1_6)]) h (fun J20 l1_6 μ7 hJ20 h n8 => ?_)
    refine x_iload_n 1 rfl dX5_readSeen_20 ?_
    refine x_bipush dX5_readSeen_21 (by decide) ?_
    obtain ⟨c9, h⟩ := h
    refine x_icmpgt (tgt := 105) c9 ⟨by decide, by decide⟩ dX5_readSeen_23 (by decide) (fun k10 => ?_) (fun k10 => ?_)
    · have h := h.1 k10
      refine x_aload_n 0 rfl dX5_readSeen_105 ?_
      refine x_iconst dX5_readSeen_106 ?_
      refine x_callVz (As := [iV 5]) (rest := []) cal_X5_fails ins_X5_fails sel_X5_fails ly35 (by decide) rfl (xX5_fails x 5 _ _ ⟨by decide, by decide⟩ h) rfl ml_X5_76 (xRoom (Nat.le_of_ble_eq_true rfl)) (Nat.le_of_ble_eq_true rfl) dX5_readSeen_107 (fun r13 μ11 i14 n12 h => ?_)
      have h := h i14 n12
      exact x_zret h i14 rfl dX5_readSeen_110
    · have h := h.2 k10
      refine x_aload_n 0 rfl dX5_readSeen_26 ?_
      refine x_callVv (As := []) (rest := []) cal_X5_next ins_X5_next sel_X5_next ly35 (by decide) rfl (xX5_next x  _ _  h) rfl ml_X5_63 (xRoom (Nat.le_of_ble_eq_true rfl)) (Nat.le_of_ble_eq_true rfl) dX5_readSeen_27 (fun μ15 n16 h => ?_)
      have h := h n16
      refine x_aload_n 0 rfl dX5_readSeen_30 ?_
      refine x_getI (j := 10) ly35 (by decide) rfl rfl (by decide) inT5 fl_X5_70 dX5_readSeen_31 (fun r17 => ?_)
      refine x_iconst dX5_readSeen_34 ?_
      refine x_icmpeq (tgt := 44) r17 ⟨by decide, by decide⟩ dX5_readSeen_35 (by decide) (fun k18 => ?_) (fun k18 => ?_)
      · have h := h.1 k18
        refine x_aload_n 0 rfl dX5_readSeen_44 ?_
        refine x_callVi (As := []) (rest := []) cal_X5_toldWord ins_X5_toldWord sel_X5_toldWord ly35 (by decide) rfl (xX5_toldWord x  _ _  h) rfl ml_X5_146 (xRoom (Nat.le_of_ble_eq_true rfl)) (Nat.le_of_ble_eq_true rfl) dX5_readSeen_45 (fun r21 μ19 i22 n20 h => ?_)
        have h := h i22 n20
        refine x_istore_n [(2, iV r21), (0, .ref (x.2.2.1 + 35)), (1, iV l1_6)] dX5_readSeen_48 (show 2 < 3 by decide) rfl ?_
        refine x_iload_n 0 rfl dX5_readSeen_49 ?_
        refine x_ifge (tgt := 59) i22  dX5_readSeen_50 (by decide) (fun k23 => ?_) (fun k23 => ?_)
        · have h := h.1 k23
          refine x_aload_n 1 rfl dX5_readSeen_59 ?_
          refine x_getR (j := 6) (r := 1) ly35 (by decide) rfl rfl (by decide) inT5 fl_X5_21 dX5_readSeen_60 ?_
          refine x_getI (j := 6) ly1 (by decide) rfl rfl (by decide) inT2 fl_X5_188 dX5_readSeen_63 (fun r24 => ?_)
          refine x_bipush dX5_readSeen_66 (by decide) ?_
          refine x_icmplt (tgt := 77) r24 ⟨by decide, by decide⟩ dX5_readSeen_68 (by decide) (fun k25 => ?_) (fun k25 => ?_)
          · have h := h.1 k25
            refine x_aload_n 1 rfl dX5_readSeen_77 ?_
            refine x_getR (j := 6) (r := 1) ly35 (by decide) rfl rfl (by decide) inT5 fl_X5_21 dX5_readSeen_78 ?_
            refine x_iload_n 0 rfl dX5_readSeen_81 ?_
            refine x_callVv (As := [iV r21]) (rest := []) cal_X2_addSeen ins_X2_addSeen sel_X2_addSeen ly1 (by decide) rfl (xX2_addSeen x 1 r21 _ _ isHouse_1 i22 h) rfl ml_X5_191 (xRoom (Nat.le_of_ble_eq_true rfl)) (Nat.le_of_ble_eq_true rfl) dX5_readSeen_82 (fun μ26 n27 h => ?_)
            have h := h n27
            refine x_aload_n 1 rfl dX5_readSeen_85 ?_
            refine x_callVv (As := []) (rest := []) cal_X5_next ins_X5_next sel_X5_next ly35 (by decide) rfl (xX5_next x  _ _  h) rfl ml_X5_63 (xRoom (Nat.le_of_ble_eq_true rfl)) (Nat.le_of_ble_eq_true rfl) dX5_readSeen_86 (fun μ28 n29 h => ?_)
            have h := h n29
            refine x_aload_n 1 rfl dX5_readSeen_89 ?_
            refine x_getI (j := 10) ly35 (by decide) rfl rfl (by decide) inT5 fl_X5_70 dX5_readSeen_90 (fun r30 => ?_)
            refine x_iconst dX5_readSeen_93 ?_
            refine x_icmpeq (tgt := 99) r30 ⟨by decide, by decide⟩ dX5_readSeen_94 (by decide) (fun k31 => ?_) (fun k31 => ?_)
            · have h := h.1 k31
              refine x_iinc 2 rfl [(1, iV (l1_6 + 1)), (2, iV r21), (0, .ref (x.2.2.1 + 35))] dX5_readSeen_99 (show 1 < 3 by decide) rfl ?_
              refine x_goto (tgt := 20) dX5_readSeen_102 (by decide) ?_
              exact x_sub [2, 0] rfl (hJ20 _ _ h)
            · have h := h.2 k31
              refine x_iconst dX5_readSeen_97 ?_
              exact x_zret h (Or.inr rfl) rfl dX5_readSeen_98
          · have h := h.2 k25
            refine x_aload_n 1 rfl dX5_readSeen_71 ?_
            refine x_iconst dX5_readSeen_72 ?_
            refine x_callVz (As := [iV 5]) (rest := []) cal_X5_fails ins_X5_fails sel_X5_fails ly35 (by decide) rfl (xX5_fails x 5 _ _ ⟨by decide, by decide⟩ h) rfl ml_X5_76 (xRoom (Nat.le_of_ble_eq_true rfl)) (Nat.le_of_ble_eq_true rfl) dX5_readSeen_73 (fun r34 μ32 i35 n33 h => ?_)
            have h := h i35 n33
            exact x_zret h i35 rfl dX5_readSeen_76
        · have h := h.2 k23
          refine x_aload_n 1 rfl dX5_readSeen_53 ?_
          refine x_iconst dX5_readSeen_54 ?_
          refine x_callVz (As := [iV 2]) (rest := []) cal_X5_fails ins_X5_fails sel_X5_fails ly35 (by decide) rfl (xX5_fails x 2 _ _ ⟨by decide, by decide⟩ h) rfl ml_X5_76 (xRoom (Nat.le_of_ble_eq_true rfl)) (Nat.le_of_ble_eq_true rfl) dX5_readSeen_55 (fun r38 μ36 i39 n37 h => ?_)
          have h := h i39 n37
          exact x_zret h i39 rfl dX5_readSeen_58
      · have h := h.2 k18
        refine x_aload_n 0 rfl dX5_readSeen_38 ?_
        refine x_iconst dX5_readSeen_39 ?_
        refine x_callVz (As := [iV 1]) (rest := []) cal_X5_fails ins_X5_fails sel_X5_fails ly35 (by decide) rfl (xX5_fails x 1 _ _ ⟨by decide, by decide⟩ h) rfl ml_X5_76 (xRoom (Nat.le_of_ble_eq_true rfl)) (Nat.le_of_ble_eq_true rfl) dX5_readSeen_40 (fun r42 μ40 i43 n41 h => ?_)
        have h := h i43 n41
        exact x_zret h i43 rfl dX5_readSeen_43
  · have h := h.2 k2
    refine x_aload_n 0 rfl dX5_readSeen_7 ?_
    refine x_iconst dX5_readSeen_8 ?_
    refine x_callVz (As := [iV 3]) (rest := []) cal_X5_fails ins_X5_fails sel_X5_fails ly35 (by decide) rfl (xX5_fails x 3 _ _ ⟨by decide, by decide⟩ h) rfl ml_X5_76 (xRoom (Nat.le_of_ble_eq_true rfl)) (Nat.le_of_ble_eq_true rfl) dX5_readSeen_9 (fun r46 μ44 i47 n45 h => ?_)
    have h := h i47 n45
    exact x_zret h i47 rfl dX5_readSeen_12
set_option maxRecDepth 100000 in
set_option maxHeartbeats 4000000 in
theorem xX5_readLine (x : xX)  (μ : xM) (Q : Int → xM → Prop)  (h : tX5_readLine  μ Q) : xMet x 8 yX5_readLine cX5_readLine 1 (some .boolean) [.ref (x.2.2.1 + 35)] μ (xQz x Q) := by
  refine xMet_of (by decide +kernel) (Nat.le_of_ble_eq_true rfl) ?_
  show xW x (xRm 8, RX5, cX5_readLine, 1, (some .boolean), fun _ _ => True) (xQz x Q) 0 [(0, .ref (x.2.2.1 + 35))] [] μ
  refine x_ran (fun n0 => ?_)
  have h := h n0 
  refine x_aload_n 0 rfl dX5_readLine_0 ?_
  refine x_ldcS 0 (i := 0) rfl dX5_readLine_1 ?_
  refine x_callVz (As := [.ref (x.2.2.2.1 0)]) (rest := []) cal_X5_reads ins_X5_reads sel_X5_reads ly35 (by decide) rfl (xX5_reads x 0 _ _ (by decide) h) rfl ml_X5_88 (xRoom (Nat.le_of_ble_eq_true rfl)) (Nat.le_of_ble_eq_true rfl) dX5_readLine_3 (fun r3 μ1 i4 n2 h => ?_)
  have h := h i4 n2
  refine x_ifeq (tgt := 14) (xIz i4)  dX5_readLine_6 (by decide) (fun k5 => ?_) (fun k5 => ?_)
  · have h := h.1 k5
    refine x_aload_n 0 rfl dX5_readLine_14 ?_
    refine x_ldcS 7 (i := 7) rfl dX5_readLine_15 ?_
    refine x_callVz (As := [.ref (x.2.2.2.1 7)]) (rest := []) cal_X5_reads ins_X5_reads sel_X5_reads ly35 (by decide) rfl (xX5_reads x 7 _ _ (by decide) h) rfl ml_X5_88 (xRoom (Nat.le_of_ble_eq_true rfl)) (Nat.le_of_ble_eq_true rfl) dX5_readLine_17 (fun r8 μ6 i9 n7 h => ?_)
    have h := h i9 n7
    refine x_ifeq (tgt := 28) (xIz i9)  dX5_readLine_20 (by decide) (fun k10 => ?_) (fun k10 => ?_)
    · have h := h.1 k10
      refine x_aload_n 0 rfl dX5_readLine_28 ?_
      refine x_ldcS 10 (i := 10) rfl dX5_readLine_29 ?_
      refine x_callVz (As := [.ref (x.2.2.2.1 10)]) (rest := []) cal_X5_reads ins_X5_reads sel_X5_reads ly35 (by decide) rfl (xX5_reads x 10 _ _ (by decide) h) rfl ml_X5_88 (xRoom (Nat.le_of_ble_eq_true rfl)) (Nat.le_of_ble_eq_true rfl) dX5_readLine_31 (fun r13 μ11 i14 n12 h => ?_)
      have h := h i14 n12
      refine x_ifeq (tgt := 42) (xIz i14)  dX5_readLine_34 (by decide) (fun k15 => ?_) (fun k15 => ?_)
      · have h := h.1 k15
        refine x_aload_n 0 rfl dX5_readLine_42 ?_
        refine x_ldcS 11 (i := 11) rfl dX5_readLine_43 ?_
        refine x_callVz (As := [.ref (x.2.2.2.1 11)]) (rest := []) cal_X5_reads ins_X5_reads sel_X5_reads ly35 (by decide) rfl (xX5_reads x 11 _ _ (by decide) h) rfl ml_X5_88 (xRoom (Nat.le_of_ble_eq_true rfl)) (Nat.le_of_ble_eq_true rfl) dX5_readLine_45 (fun r18 μ16 i19 n17 h => ?_)
        have h := h i19 n17
        refine x_ifeq (tgt := 56) (xIz i19)  dX5_readLine_48 (by decide) (fun k20 => ?_) (fun k20 => ?_)
        · have h := h.1 k20
          refine x_aload_n 0 rfl dX5_readLine_56 ?_
          refine x_ldcS 12 (i := 12) rfl dX5_readLine_57 ?_
          refine x_callVz (As := [.ref (x.2.2.2.1 12)]) (rest := []) cal_X5_reads ins_X5_reads sel_X5_reads ly35 (by decide) rfl (xX5_reads x 12 _ _ (by decide) h) rfl ml_X5_88 (xRoom (Nat.le_of_ble_eq_true rfl)) (Nat.le_of_ble_eq_true rfl) dX5_readLine_59 (fun r23 μ21 i24 n22 h => ?_)
          have h := h i24 n22
          refine x_ifeq (tgt := 70) (xIz i24)  dX5_readLine_62 (by decide) (fun k25 => ?_) (fun k25 => ?_)
          · have h := h.1 k25
            refine x_aload_n 0 rfl dX5_readLine_70 ?_
            refine x_iconst dX5_readLine_71 ?_
            refine x_callVz (As := [iV 1]) (rest := []) cal_X5_fails ins_X5_fails sel_X5_fails ly35 (by decide) rfl (xX5_fails x 1 _ _ ⟨by decide, by decide⟩ h) rfl ml_X5_76 (xRoom (Nat.le_of_ble_eq_true rfl)) (Nat.le_of_ble_eq_true rfl) dX5_readLine_72 (fun r28 μ26 i29 n27 h => ?_)
            have h := h i29 n27
            exact x_zret h i29 rfl dX5_readLine_75
          · have h := h.2 (xz1 i24 k25)
            refine x_aload_n 0 rfl dX5_readLine_65 ?_
            refine x_callVz (As := []) (rest := []) cal_X5_readSeen ins_X5_readSeen sel_X5_readSeen ly35 (by decide) rfl (xX5_readSeen x  _ _  h) rfl ml_X5_112 (xRoom (Nat.le_of_ble_eq_true rfl)) (Nat.le_of_ble_eq_true rfl) dX5_readLine_66 (fun r32 μ30 i33 n31 h => ?_)
            have h := h i33 n31
            exact x_zret h i33 rfl dX5_readLine_69
        · have h := h.2 (xz1 i19 k20)
          refine x_aload_n 0 rfl dX5_readLine_51 ?_
          refine x_callVz (As := []) (rest := []) cal_X5_readLikely ins_X5_readLikely sel_X5_readLikely ly35 (by decide) rfl (xX5_readLikely x  _ _  h) rfl ml_X5_107 (xRoom (Nat.le_of_ble_eq_true rfl)) (Nat.le_of_ble_eq_true rfl) dX5_readLine_52 (fun r36 μ34 i37 n35 h => ?_)
          have h := h i37 n35
          exact x_zret h i37 rfl dX5_readLine_55
      · have h := h.2 (xz1 i14 k15)
        refine x_aload_n 0 rfl dX5_readLine_37 ?_
        refine x_callVz (As := []) (rest := []) cal_X5_readGuests ins_X5_readGuests sel_X5_readGuests ly35 (by decide) rfl (xX5_readGuests x  _ _  h) rfl ml_X5_102 (xRoom (Nat.le_of_ble_eq_true rfl)) (Nat.le_of_ble_eq_true rfl) dX5_readLine_38 (fun r40 μ38 i41 n39 h => ?_)
        have h := h i41 n39
        exact x_zret h i41 rfl dX5_readLine_41
    · have h := h.2 (xz1 i9 k10)
      refine x_aload_n 0 rfl dX5_readLine_23 ?_
      refine x_callVz (As := []) (rest := []) cal_X5_readWord ins_X5_readWord sel_X5_readWord ly35 (by decide) rfl (xX5_readWord x  _ _  h) rfl ml_X5_97 (xRoom (Nat.le_of_ble_eq_true rfl)) (Nat.le_of_ble_eq_true rfl) dX5_readLine_24 (fun r44 μ42 i45 n43 h => ?_)
      have h := h i45 n43
      exact x_zret h i45 rfl dX5_readLine_27
  · have h := h.2 (xz1 i4 k5)
    refine x_aload_n 0 rfl dX5_readLine_9 ?_
    refine x_callVz (As := []) (rest := []) cal_X5_readHouse ins_X5_readHouse sel_X5_readHouse ly35 (by decide) rfl (xX5_readHouse x  _ _  h) rfl ml_X5_92 (xRoom (Nat.le_of_ble_eq_true rfl)) (Nat.le_of_ble_eq_true rfl) dX5_readLine_10 (fun r48 μ46 i49 n47 h => ?_)
    have h := h i49 n47
    exact x_zret h i49 rfl dX5_readLine_13
set_option maxRecDepth 100000 in
set_option maxHeartbeats 4000000 in
theorem xX5_ends (x : xX)  (μ : xM) (Q : Int → xM → Prop)  (h : tX5_ends  μ Q) : xMet x 2 yX5_ends cX5_ends 1 (some .boolean) [.ref (x.2.2.1 + 35)] μ (xQz x Q) := by
  refine xMet_of (by decide +kernel) (Nat.le_of_ble_eq_true rfl) ?_
  show xW x (xRm 2, RX5, cX5_ends, 1, (some .boolean), fun _ _ => True) (xQz x Q) 0 [(0, .ref (x.2.2.1 + 35))] [] μ
  refine x_ran (fun n0 => ?_)
  have h := h n0 
  refine x_aload_n 0 rfl dX5_ends_0 ?_
  refine x_getI (j := 10) ly35 (by decide) rfl rfl (by decide) inT5 fl_X5_70 dX5_ends_1 (fun r1 => ?_)
  refine x_ifeq (tgt := 13) r1  dX5_ends_4 (by decide) (fun k2 => ?_) (fun k2 => ?_)
  · have h := h.1 k2
    refine x_aload_n 0 rfl dX5_ends_13 ?_
    refine x_getI (j := 7) ly35 (by decide) rfl rfl (by decide) inT5 fl_X5_38 dX5_ends_14 (fun r3 => ?_)
    refine x_ifeq (tgt := 42) r3  dX5_ends_17 (by decide) (fun k4 => ?_) (fun k4 => ?_)
    · have h := h.1 k4
      refine x_aload_n 0 rfl dX5_ends_42 ?_
      refine x_bipush dX5_ends_43 (by decide) ?_
      refine x_callVz (As := [iV 6]) (rest := []) cal_X5_fails ins_X5_fails sel_X5_fails ly35 (by decide) rfl (xX5_fails x 6 _ _ ⟨by decide, by decide⟩ h) rfl ml_X5_76 (xRoom (Nat.le_of_ble_eq_true rfl)) (Nat.le_of_ble_eq_true rfl) dX5_ends_45 (fun r7 μ5 i8 n6 h => ?_)
      have h := h i8 n6
      exact x_zret h i8 rfl dX5_ends_48
    · have h := h.2 k4
      refine x_aload_n 0 rfl dX5_ends_20 ?_
      refine x_getR (j := 6) (r := 1) ly35 (by decide) rfl rfl (by decide) inT5 fl_X5_21 dX5_ends_21 ?_
      refine x_getI (j := 3) ly1 (by decide) rfl rfl (by decide) inT2 fl_X5_80 dX5_ends_24 (fun r9 => ?_)
      refine x_iconst dX5_ends_27 ?_
      refine x_icmplt (tgt := 42) r9 ⟨by decide, by decide⟩ dX5_ends_28 (by decide) (fun k10 => ?_) (fun k10 => ?_)
      · have h := h.1 k10
        refine x_aload_n 0 rfl dX5_ends_42 ?_
        refine x_bipush dX5_ends_43 (by decide) ?_
        refine x_callVz (As := [iV 6]) (rest := []) cal_X5_fails ins_X5_fails sel_X5_fails ly35 (by decide) rfl (xX5_fails x 6 _ _ ⟨by decide, by decide⟩ h) rfl ml_X5_76 (xRoom (Nat.le_of_ble_eq_true rfl)) (Nat.le_of_ble_eq_true rfl) dX5_ends_45 (fun r13 μ11 i14 n12 h => ?_)
        have h := h i14 n12
        exact x_zret h i14 rfl dX5_ends_48
      · have h := h.2 k10
        refine x_aload_n 0 rfl dX5_ends_31 ?_
        refine x_getR (j := 6) (r := 1) ly35 (by decide) rfl rfl (by decide) inT5 fl_X5_21 dX5_ends_32 ?_
        refine x_getI (j := 4) ly1 (by decide) rfl rfl (by decide) inT2 fl_X5_83 dX5_ends_35 (fun r15 => ?_)
        refine x_iconst dX5_ends_38 ?_
        refine x_icmpge (tgt := 49) r15 ⟨by decide, by decide⟩ dX5_ends_39 (by decide) (fun k16 => ?_) (fun k16 => ?_)
        · have h := h.1 k16
          refine x_iconst dX5_ends_49 ?_
          exact x_zret h (Or.inr rfl) rfl dX5_ends_50
        · have h := h.2 k16
          refine x_aload_n 0 rfl dX5_ends_42 ?_
          refine x_bipush dX5_ends_43 (by decide) ?_
          refine x_callVz (As := [iV 6]) (rest := []) cal_X5_fails ins_X5_fails sel_X5_fails ly35 (by decide) rfl (xX5_fails x 6 _ _ ⟨by decide, by decide⟩ h) rfl ml_X5_76 (xRoom (Nat.le_of_ble_eq_true rfl)) (Nat.le_of_ble_eq_true rfl) dX5_ends_45 (fun r19 μ17 i20 n18 h => ?_)
          have h := h i20 n18
          exact x_zret h i20 rfl dX5_ends_48
  · have h := h.2 k2
    refine x_aload_n 0 rfl dX5_ends_7 ?_
    refine x_iconst dX5_ends_8 ?_
    refine x_callVz (As := [iV 1]) (rest := []) cal_X5_fails ins_X5_fails sel_X5_fails ly35 (by decide) rfl (xX5_fails x 1 _ _ ⟨by decide, by decide⟩ h) rfl ml_X5_76 (xRoom (Nat.le_of_ble_eq_true rfl)) (Nat.le_of_ble_eq_true rfl) dX5_ends_9 (fun r23 μ21 i24 n22 h => ?_)
    have h := h i24 n22
    exact x_zret h i24 rfl dX5_ends_12
set_option maxRecDepth 100000 in
set_option maxHeartbeats 4000000 in
theorem xX5_readInn (x : xX) (p1 : Int) (μ : xM) (Q : Int → xM → Prop) (hp1 : xIn p1) (h : tX5_readInn p1 μ Q) : xMet x 9 yX5_readInn cX5_readInn 4 (some .boolean) [.ref (x.2.2.1 + 35), iV p1] μ (xQz x Q) := by
  refine xMet_of (by decide +kernel) (Nat.le_of_ble_eq_true rfl) ?_
  show xW x (xRm 9, RX5, cX5_readInn, 4, (some .boolean), fun _ _ => True) (xQz x Q) 0 [(0, .ref (x.2.2.1 + 35)), (1, iV p1)] [] μ
  refine x_ran (fun n0 => ?_)
  have h := h n0 hp1
  refine x_aload_n 0 rfl dX5_readInn_0 ?_
  refine x_getR (j := 6) (r := 1) ly35 (by decide) rfl rfl (by decide) inT5 fl_X5_21 dX5_readInn_1 ?_
  refine x_callVv (As := []) (rest := []) cal_X2_clear ins_X2_clear sel_X2_clear ly1 (by decide) rfl (xX2_clear x 1 _ _ isHouse_1 h) rfl ml_X5_33 (xRoom (Nat.le_of_ble_eq_true rfl)) (Nat.le_of_ble_eq_true rfl) dX5_readInn_4 (fun μ1 n2 h => ?_)
  have h := h n2
  refine x_aload_n 0 rfl dX5_readInn_7 ?_
  refine x_iconst dX5_readInn_8 ?_
  refine x_putZ (j := 7) ly35 (by decide) rfl rfl (by decide) inT5 fl_X5_38 tyX5 tyX5_ok nmX5 rfl (Or.inl rfl) (by decide +kernel) dX5_readInn_9 (fun μ3 e5 n4 => ?_)
  have h := h μ3 e5 n4
  refine x_aload_n 0 rfl dX5_readInn_12 ?_
  refine x_iconst dX5_readInn_13 ?_
  refine x_putZ (j := 8) ly35 (by decide) rfl rfl (by decide) inT5 fl_X5_42 tyX5 tyX5_ok nmX5 rfl (Or.inl rfl) (by decide +kernel) dX5_readInn_14 (fun μ6 e8 n7 => ?_)
  have h := h μ6 e8 n7
  refine x_aload_n 0 rfl dX5_readInn_17 ?_
  refine x_iconst dX5_readInn_18 ?_
  refine x_putI (j := 1) ly35 (by decide) rfl rfl (by decide) inT5 fl_X5_45 tyX5 tyX5_ok nmX5 rfl ⟨by decide, by decide⟩ (by decide +kernel) dX5_readInn_19 (fun μ9 e11 n10 => ?_)
  have h := h μ9 e11 n10
  refine x_aload_n 0 rfl dX5_readInn_22 ?_
  refine x_iconst dX5_readInn_23 ?_
  refine x_putI (j := 2) ly35 (by decide) rfl rfl (by decide) inT5 fl_X5_48 tyX5 tyX5_ok nmX5 rfl ⟨by decide, by decide⟩ (by decide +kernel) dX5_readInn_24 (fun μ12 e14 n13 => ?_)
  have h := h μ12 e14 n13
  refine x_aload_n 0 rfl dX5_readInn_27 ?_
  refine x_iload_n 1 rfl dX5_readInn_28 ?_
  refine x_aload_n 0 rfl dX5_readInn_29 ?_
  refine x_getI (j := 0) ly35 (by decide) rfl rfl (by decide) inT5 fl_X5_25 dX5_readInn_30 (fun r15 => ?_)
  refine x_min hp1 r15 ml_X5_51 (xRoom1 (by decide)) (Nat.le_of_ble_eq_true rfl) dX5_readInn_33 ?_
  refine x_putI (j := 9) ly35 (by decide) rfl rfl (by decide) inT5 fl_X5_57 tyX5 tyX5_ok nmX5 rfl (xmin_in hp1 r15) (by decide +kernel) dX5_readInn_36 (fun μ16 e18 n17 => ?_)
  have h := h μ16 e18 n17
  refine x_aload_n 0 rfl dX5_readInn_39 ?_
  refine x_iconst dX5_readInn_40 ?_
  refine x_putI (j := 12) ly35 (by decide) rfl rfl (by decide) inT5 fl_X5_60 tyX5 tyX5_ok nmX5 rfl ⟨by decide, by decide⟩ (by decide +kernel) dX5_readInn_41 (fun μ19 e21 n20 => ?_)
  have h := h μ19 e21 n20
  refine x_aload_n 0 rfl dX5_readInn_44 ?_
  refine x_iconst dX5_readInn_45 ?_
  refine x_putI (j := 0) ly35 (by decide) rfl rfl (by decide) inT5 fl_X5_25 tyX5 tyX5_ok nmX5 rfl ⟨by decide, by decide⟩ (by decide +kernel) dX5_readInn_46 (fun μ22 e24 n23 => ?_)
  have h := h μ22 e24 n23
  refine x_aload_n 0 rfl dX5_readInn_49 ?_
  refine x_callVv (As := []) (rest := []) cal_X5_next ins_X5_next sel_X5_next ly35 (by decide) rfl (xX5_next x  _ _  h) rfl ml_X5_63 (xRoom (Nat.le_of_ble_eq_true rfl)) (Nat.le_of_ble_eq_true rfl) dX5_readInn_50 (fun μ25 n26 h => ?_)
  have h := h n26
  refine x_aload_n 0 rfl dX5_readInn_53 ?_
  refine x_callVz (As := []) (rest := []) cal_X5_readLine ins_X5_readLine sel_X5_readLine ly35 (by decide) rfl (xX5_readLine x  _ _  h) rfl ml_X5_66 (xRoom (Nat.le_of_ble_eq_true rfl)) (Nat.le_of_ble_eq_true rfl) dX5_readInn_54 (fun r29 μ27 i30 n28 h => ?_)
  have h := h i30 n28
  refine x_istore_n [(2, iV r29), (0, .ref (x.2.2.1 + 35)), (1, iV p1)] dX5_readInn_57 (show 2 < 4 by decide) rfl ?_
  refine x_iconst dX5_readInn_58 ?_
  refine x_istore_n [(3, iV 0), (2, iV r29), (0, .ref (x.2.2.1 + 35)), (1, iV p1)] dX5_readInn_59 (show 3 < 4 by decide) rfl ?_
  refine x_sub [2, 1, 0] rfl ?_
  refine x_loop2 (fun l2_31 l3_32 => [(0, .ref (x.2.2.1 + 35)), (2, iV l2_31), (3, iV l3_32)]) h (fun J60 l2_31 l3_32 μ33 hJ60 h n34 => ?_)
  refine x_iload_n 1 rfl dX5_readInn_60 ?_
  obtain ⟨c35, h⟩ := h
  refine x_ifeq (tgt := 94) c35  dX5_readInn_61 (by decide) (fun k36 => ?_) (fun k36 => ?_)
  · have h := h.1 k36
    refine x_iload_n 1 rfl dX5_readInn_94 ?_
    refine x_ifeq (tgt := 109) c35  dX5_readInn_95 (by decide) (fun k37 => ?_) (fun k37 => ?_)
    · have h := h.1 k37
      refine x_iconst dX5_readInn_109 ?_
      exact x_zret h (Or.inl rfl) rfl dX5_readInn_110
    · have h := h.2 k37
      refine x_aload_n 0 rfl dX5_readInn_98 ?_
      refine x_callVz (As := []) (rest := []) cal_X5_ends ins_X5_ends sel_X5_ends ly35 (by decide) rfl (xX5_ends x  _ _  h) rfl ml_X5_73 (xRoom (Nat.le_of_ble_eq_true rfl)) (Nat.le_of_ble_eq_true rfl) dX5_readInn_99 (fun r40 μ38 i41 n39 h => ?_)
      have h := h i41 n39
      refine x_ifeq (tgt := 109) (xIz i41)  dX5_readInn_102 (by decide) (fun k42 => ?_) (fun k42 => ?_)
      · have h := h.1 k42
        refine x_iconst dX5_readInn_109 ?_
        exact x_zret h (Or.inl rfl) rfl dX5_readInn_110
      · have h := h.2 (xz1 i41 k42)
        refine x_iconst dX5_readInn_105 ?_
        refine x_goto (tgt := 110) dX5_readInn_106 (by decide) ?_
        exact x_zret h (Or.inr rfl) rfl dX5_readInn_110
  · have h := h.2 k36
    refine x_aload_n 0 rfl dX5_readInn_64 ?_
    refine x_getI (j := 10) ly35 (by decide) rfl rfl (by decide) inT5 fl_X5_70 dX5_readInn_65 (fun r43 => ?_)
    refine x_iconst dX5_readInn_68 ?_
    refine x_icmpne (tgt := 94) r43 ⟨by decide, by decide⟩ dX5_readInn_69 (by decide) (fun k44 => ?_) (fun k44 => ?_)
    · have h := h.1 k44
      refine x_iload_n 1 rfl dX5_readInn_94 ?_
      refine x_ifeq (tgt := 109) c35  dX5_readInn_95 (by decide) (fun k45 => ?_) (fun k45 => ?_)
      · have h := h.1 k45
        refine x_iconst dX5_readInn_109 ?_
        exact x_zret h (Or.inl rfl) rfl dX5_readInn_110
      · have h := h.2 k45
        refine x_aload_n 0 rfl dX5_readInn_98 ?_
        refine x_callVz (As := []) (rest := []) cal_X5_ends ins_X5_ends sel_X5_ends ly35 (by decide) rfl (xX5_ends x  _ _  h) rfl ml_X5_73 (xRoom (Nat.le_of_ble_eq_true rfl)) (Nat.le_of_ble_eq_true rfl) dX5_readInn_99 (fun r48 μ46 i49 n47 h => ?_)
        have h := h i49 n47
        refine x_ifeq (tgt := 109) (xIz i49)  dX5_readInn_102 (by decide) (fun k50 => ?_) (fun k50 => ?_)
        · have h := h.1 k50
          refine x_iconst dX5_readInn_109 ?_
          exact x_zret h (Or.inl rfl) rfl dX5_readInn_110
        · have h := h.2 (xz1 i49 k50)
          refine x_iconst dX5_readInn_105 ?_
          refine x_goto (tgt := 110) dX5_readInn_106 (by decide) ?_
          exact x_zret h (Or.inr rfl) rfl dX5_readInn_110
    · have h := h.2 k44
      refine x_iload_n 2 rfl dX5_readInn_72 ?_
      refine x_sipush dX5_readInn_73 (by decide) ?_
      obtain ⟨c51, h⟩ := h
      refine x_icmpge (tgt := 94) c51 ⟨by decide, by decide⟩ dX5_readInn_76 (by decide) (fun k52 => ?_) (fun k52 => ?_)
      · have h := h.1 k52
        refine x_iload_n 1 rfl dX5_readInn_94 ?_
        refine x_ifeq (tgt := 109) c35  dX5_readInn_95 (by decide) (fun k53 => ?_) (fun k53 => ?_)
        · have h := h.1 k53
          refine x_iconst dX5_readInn_109 ?_
          exact x_zret h (Or.inl rfl) rfl dX5_readInn_110
        · have h := h.2 k53
          refine x_aload_n 0 rfl dX5_readInn_98 ?_
          refine x_callVz (As := []) (rest := []) cal_X5_ends ins_X5_ends sel_X5_ends ly35 (by decide) rfl (xX5_ends x  _ _  h) rfl ml_X5_73 (xRoom (Nat.le_of_ble_eq_true rfl)) (Nat.le_of_ble_eq_true rfl) dX5_readInn_99 (fun r56 μ54 i57 n55 h => ?_)
          have h := h i57 n55
          refine x_ifeq (tgt := 109) (xIz i57)  dX5_readInn_102 (by decide) (fun k58 => ?_) (fun k58 => ?_)
          · have h := h.1 k58
            refine x_iconst dX5_readInn_109 ?_
            exact x_zret h (Or.inl rfl) rfl dX5_readInn_110
          · have h := h.2 (xz1 i57 k58)
            refine x_iconst dX5_readInn_105 ?_
            refine x_goto (tgt := 110) dX5_readInn_106 (by decide) ?_
            exact x_zret h (Or.inr rfl) rfl dX5_readInn_110
      · have h := h.2 k52
        refine x_aload_n 0 rfl dX5_readInn_79 ?_
        refine x_callVv (As := []) (rest := []) cal_X5_next ins_X5_next sel_X5_next ly35 (by decide) rfl (xX5_next x  _ _  h) rfl ml_X5_63 (xRoom (Nat.le_of_ble_eq_true rfl)) (Nat.le_of_ble_eq_true rfl) dX5_readInn_80 (fun μ59 n60 h => ?_)
        have h := h n60
        refine x_aload_n 0 rfl dX5_readInn_83 ?_
        refine x_callVz (As := []) (rest := []) cal_X5_readLine ins_X5_readLine sel_X5_readLine ly35 (by decide) rfl (xX5_readLine x  _ _  h) rfl ml_X5_66 (xRoom (Nat.le_of_ble_eq_true rfl)) (Nat.le_of_ble_eq_true rfl) dX5_readInn_84 (fun r63 μ61 i64 n62 h => ?_)
        have h := h i64 n62
        refine x_istore_n [(2, iV r63), (0, .ref (x.2.2.1 + 35)), (3, iV l3_32)] dX5_readInn_87 (show 2 < 4 by decide) rfl ?_
        refine x_iinc 2 rfl [(3, iV (l3_32 + 1)), (2, iV r63), (0, .ref (x.2.2.1 + 35))] dX5_readInn_88 (show 3 < 4 by decide) rfl ?_
        refine x_goto (tgt := 60) dX5_readInn_91 (by decide) ?_
        exact x_sub [2, 1, 0] rfl (hJ60 _ _ _ h)
set_option maxRecDepth 100000 in
set_option maxHeartbeats 4000000 in
theorem xX6_grownBy (x : xX) (p1 : Int) (μ : xM) (Q : Int → xM → Prop) (hp1 : xIn p1) (h : tX6_grownBy p1 μ Q) : xMet x 3 yX6_grownBy cX6_grownBy 2 (some .int) [.ref (x.2.2.1 + 247), iV p1] μ (xQi x Q) := by
  refine xMet_of (by decide +kernel) (Nat.le_of_ble_eq_true rfl) ?_
  show xW x (xRm 3, RX6, cX6_grownBy, 2, (some .int), fun _ _ => True) (xQi x Q) 0 [(0, .ref (x.2.2.1 + 247)), (1, iV p1)] [] μ
  refine x_ran (fun n0 => ?_)
  have h := h n0 hp1
  refine x_aload_n 0 rfl dX6_grownBy_0 ?_
  refine x_getR (j := 1) (r := 73) ly247 (by decide) rfl rfl (by decide) inT6 fl_X6_19 dX6_grownBy_1 ?_
  refine x_aload_n 0 rfl dX6_grownBy_4 ?_
  refine x_getR (j := 0) (r := 39) ly247 (by decide) rfl rfl (by decide) inT6 fl_X6_15 dX6_grownBy_5 ?_
  refine x_iload_n 1 rfl dX6_grownBy_8 ?_
  refine x_iconst dX6_grownBy_9 ?_
  refine x_isub dX6_grownBy_10 ?_
  obtain ⟨c1, h⟩ := h
  refine x_callVi (As := [iV (p1 - 1)]) (rest := [.ref (x.2.2.1 + 73)]) cal_X2_seenOf ins_X2_seenOf sel_X2_seenOf ly39 (by decide) rfl (xX2_seenOf x 39 (p1 - 1) _ _ isHouse_39 c1 h) rfl ml_X6_29 (xRoom (Nat.le_of_ble_eq_true rfl)) (Nat.le_of_ble_eq_true rfl) dX6_grownBy_11 (fun r4 μ2 i5 n3 h => ?_)
  have h := h i5 n3
  refine x_aload_n 0 rfl dX6_grownBy_14 ?_
  refine x_getR (j := 0) (r := 39) ly247 (by decide) rfl rfl (by decide) inT6 fl_X6_15 dX6_grownBy_15 ?_
  refine x_iload_n 1 rfl dX6_grownBy_18 ?_
  refine x_callVi (As := [iV p1]) (rest := [iV r4, .ref (x.2.2.1 + 73)]) cal_X2_seenOf ins_X2_seenOf sel_X2_seenOf ly39 (by decide) rfl (xX2_seenOf x 39 p1 _ _ isHouse_39 hp1 h) rfl ml_X6_29 (xRoom (Nat.le_of_ble_eq_true rfl)) (Nat.le_of_ble_eq_true rfl) dX6_grownBy_19 (fun r8 μ6 i9 n7 h => ?_)
  have h := h i9 n7
  refine x_callVi (As := [iV r4, iV r8]) (rest := []) cal_X1_letterOf ins_X1_letterOf sel_X1_letterOf ly73 (by decide) rfl (xX1_letterOf x r4 r8 _ _ i5 i9 h) rfl ml_X6_40 (xRoom (Nat.le_of_ble_eq_true rfl)) (Nat.le_of_ble_eq_true rfl) dX6_grownBy_22 (fun r12 μ10 i13 n11 h => ?_)
  have h := h i13 n11
  exact x_iret h i13 rfl dX6_grownBy_25
set_option maxRecDepth 100000 in
set_option maxHeartbeats 4000000 in
theorem xX6_firstWrong (x : xX)  (μ : xM) (Q : Int → xM → Prop)  (h : tX6_firstWrong  μ Q) : xMet x 4 yX6_firstWrong cX6_firstWrong 2 (some .int) [.ref (x.2.2.1 + 247)] μ (xQi x Q) := by
  refine xMet_of (by decide +kernel) (Nat.le_of_ble_eq_true rfl) ?_
  show xW x (xRm 4, RX6, cX6_firstWrong, 2, (some .int), fun _ _ => True) (xQi x Q) 0 [(0, .ref (x.2.2.1 + 247))] [] μ
  refine x_ran (fun n0 => ?_)
  have h := h n0 
  refine x_iconst dX6_firstWrong_0 ?_
  refine x_istore_n [(1, iV 0), (0, .ref (x.2.2.1 + 247))] dX6_firstWrong_1 (show 1 < 2 by decide) rfl ?_
  refine x_sub [1, 0] rfl ?_
  refine x_loop1 (fun l1_1 => [(0, .ref (x.2.2.1 + 247)), (1, iV l1_1)]) h (fun J2 l1_1 μ2 hJ2 h n3 => ?_)
  refine x_iload_n 1 rfl dX6_firstWrong_2 ?_
  refine x_aload_n 0 rfl dX6_firstWrong_3 ?_
  refine x_getR (j := 0) (r := 39) ly247 (by decide) rfl rfl (by decide) inT6 fl_X6_15 dX6_firstWrong_4 ?_
  refine x_getI (j := 6) ly39 (by decide) rfl rfl (by decide) inT2 fl_X6_23 dX6_firstWrong_7 (fun r4 => ?_)
  obtain ⟨c5, h⟩ := h
  refine x_icmpge (tgt := 51) c5 r4 dX6_firstWrong_10 (by decide) (fun k6 => ?_) (fun k6 => ?_)
  · have h := h.1 k6
    refine x_bipush dX6_firstWrong_51 (by decide) ?_
    exact x_iret h ⟨by decide, by decide⟩ rfl dX6_firstWrong_53
  · have h := h.2 k6
    refine x_aload_n 0 rfl dX6_firstWrong_13 ?_
    refine x_getR (j := 0) (r := 39) ly247 (by decide) rfl rfl (by decide) inT6 fl_X6_15 dX6_firstWrong_14 ?_
    refine x_aload_n 0 rfl dX6_firstWrong_17 ?_
    refine x_getR (j := 0) (r := 39) ly247 (by decide) rfl rfl (by decide) inT6 fl_X6_15 dX6_firstWrong_18 ?_
    refine x_iload_n 1 rfl dX6_firstWrong_21 ?_
    refine x_callVi (As := [iV l1_1]) (rest := [.ref (x.2.2.1 + 39)]) cal_X2_seenOf ins_X2_seenOf sel_X2_seenOf ly39 (by decide) rfl (xX2_seenOf x 39 l1_1 _ _ isHouse_39 c5 h) rfl ml_X6_29 (xRoom (Nat.le_of_ble_eq_true rfl)) (Nat.le_of_ble_eq_true rfl) dX6_firstWrong_22 (fun r9 μ7 i10 n8 h => ?_)
    have h := h i10 n8
    refine x_callVz (As := [iV r9]) (rest := []) cal_X2_isGood ins_X2_isGood sel_X2_isGood ly39 (by decide) rfl (xX2_isGood x 39 r9 _ _ isHouse_39 i10 h) rfl ml_X6_33 (xRoom (Nat.le_of_ble_eq_true rfl)) (Nat.le_of_ble_eq_true rfl) dX6_firstWrong_25 (fun r13 μ11 i14 n12 h => ?_)
    have h := h i14 n12
    refine x_ifeq (tgt := 43) (xIz i14)  dX6_firstWrong_28 (by decide) (fun k15 => ?_) (fun k15 => ?_)
    · have h := h.1 k15
      refine x_iload_n 1 rfl dX6_firstWrong_43 ?_
      exact x_iret h c5 rfl dX6_firstWrong_44
    · have h := h.2 (xz1 i14 k15)
      refine x_iload_n 1 rfl dX6_firstWrong_31 ?_
      refine x_ifle (tgt := 45) c5  dX6_firstWrong_32 (by decide) (fun k16 => ?_) (fun k16 => ?_)
      · have h := h.1 k16
        refine x_iinc 1 rfl [(1, iV (l1_1 + 1)), (0, .ref (x.2.2.1 + 247))] dX6_firstWrong_45 (show 1 < 2 by decide) rfl ?_
        refine x_goto (tgt := 2) dX6_firstWrong_48 (by decide) ?_
        exact x_sub [1, 0] rfl (hJ2 _ _ h)
      · have h := h.2 k16
        refine x_aload_n 0 rfl dX6_firstWrong_35 ?_
        refine x_iload_n 1 rfl dX6_firstWrong_36 ?_
        refine x_callVi (As := [iV l1_1]) (rest := []) cal_X6_grownBy ins_X6_grownBy sel_X6_grownBy ly247 (by decide) rfl (xX6_grownBy x l1_1 _ _ c5 h) rfl ml_X6_37 (xRoom (Nat.le_of_ble_eq_true rfl)) (Nat.le_of_ble_eq_true rfl) dX6_firstWrong_37 (fun r19 μ17 i20 n18 h => ?_)
        have h := h i20 n18
        refine x_ifge (tgt := 45) i20  dX6_firstWrong_40 (by decide) (fun k21 => ?_) (fun k21 => ?_)
        · have h := h.1 k21
          refine x_iinc 1 rfl [(1, iV (l1_1 + 1)), (0, .ref (x.2.2.1 + 247))] dX6_firstWrong_45 (show 1 < 2 by decide) rfl ?_
          refine x_goto (tgt := 2) dX6_firstWrong_48 (by decide) ?_
          exact x_sub [1, 0] rfl (hJ2 _ _ h)
        · have h := h.2 k21
          refine x_iload_n 1 rfl dX6_firstWrong_43 ?_
          exact x_iret h c5 rfl dX6_firstWrong_44
set_option maxRecDepth 100000 in
set_option maxHeartbeats 4000000 in
theorem xX6_layOut (x : xX) (p1 : Nat) (p1n : Nat) (μ : xM) (Q : xM → Prop) (hp1 : lay p1 = (1, p1n, []) ∧ p1 < 281 ∧ p1n ≤ 200000) (h : tX6_layOut p1 p1n μ Q) : xMet x 2 yX6_layOut cX6_layOut 3 none [.ref (x.2.2.1 + 247), .ref (x.2.2.1 + p1)] μ (xQv x Q) := by
  refine xMet_of (by decide +kernel) (Nat.le_of_ble_eq_true rfl) ?_
  show xW x (xRm 2, RX6, cX6_layOut, 3, none, fun _ _ => True) (xQv x Q) 0 [(0, .ref (x.2.2.1 + 247)), (1, .ref (x.2.2.1 + p1))] [] μ
  refine x_ran (fun n0 => ?_)
  have h := h n0 
  refine x_aload_n 0 rfl dX6_layOut_0 ?_
  refine x_getR (j := 2) (r := 248) ly247 (by decide) rfl rfl (by decide) inT6 fl_X6_9 dX6_layOut_1 ?_
  refine x_iconst dX6_layOut_4 ?_
  refine x_callSv (As := [.ref (x.2.2.1 + 248), iV 0]) (rest := []) cal_J7_fill_53178 sta_J7_fill_53178 (xJ7_fill_53178 x 248 26 0 _ _ ⟨ly248, (by decide), (by decide)⟩ ⟨by decide, by decide⟩ h) rfl ml_X6_78 (xRoom (Nat.le_of_ble_eq_true rfl)) (Nat.le_of_ble_eq_true rfl) dX6_layOut_5 (fun μ1 n2 h => ?_)
  have h := h n2
  refine x_iconst dX6_layOut_8 ?_
  refine x_istore_n [(2, iV 0), (0, .ref (x.2.2.1 + 247)), (1, .ref (x.2.2.1 + p1))] dX6_layOut_9 (show 2 < 3 by decide) rfl ?_
  refine x_sub [1, 2, 0] rfl ?_
  refine x_loop1 (fun l2_3 => [(0, .ref (x.2.2.1 + 247)), (1, .ref (x.2.2.1 + p1)), (2, iV l2_3)]) h (fun J10 l2_3 μ4 hJ10 h n5 => ?_)
  refine x_iload_n 2 rfl dX6_layOut_10 ?_
  refine x_aload_n 1 rfl dX6_layOut_11 ?_
  refine x_alen hp1.1 hp1.2.1 dX6_layOut_12 ?_
  obtain ⟨c6, h⟩ := h
  refine x_icmpge (tgt := 48) c6 ⟨by omega, by have := hp1.2.2; omega⟩ dX6_layOut_13 (by decide) (fun k7 => ?_) (fun k7 => ?_)
  · have h := h.1 k7
    exact x_vret h rfl dX6_layOut_48
  · have h := h.2 k7
    refine x_aload_n 1 rfl dX6_layOut_16 ?_
    refine x_iload_n 2 rfl dX6_layOut_17 ?_
    obtain ⟨c8, h⟩ := h
    refine x_iald hp1.1 c8.1 c8.2 (xIb (n := p1n) c8 hp1.2.2) hp1.2.1 dX6_layOut_18 (fun r9 => ?_)
    refine x_iflt (tgt := 48) r9  dX6_layOut_19 (by decide) (fun k10 => ?_) (fun k10 => ?_)
    · have h := h.1 k10
      exact x_vret h rfl dX6_layOut_48
    · have h := h.2 k10
      refine x_aload_n 1 rfl dX6_layOut_22 ?_
      refine x_iload_n 2 rfl dX6_layOut_23 ?_
      refine x_iald hp1.1 c8.1 c8.2 (xIb (n := p1n) c8 hp1.2.2) hp1.2.1 dX6_layOut_24 (fun r11 => ?_)
      refine x_bipush dX6_layOut_25 (by decide) ?_
      refine x_icmpge (tgt := 48) r11 ⟨by decide, by decide⟩ dX6_layOut_27 (by decide) (fun k12 => ?_) (fun k12 => ?_)
      · have h := h.1 k12
        exact x_vret h rfl dX6_layOut_48
      · have h := h.2 k12
        refine x_aload_n 0 rfl dX6_layOut_30 ?_
        refine x_getR (j := 2) (r := 248) ly247 (by decide) rfl rfl (by decide) inT6 fl_X6_9 dX6_layOut_31 ?_
        refine x_aload_n 1 rfl dX6_layOut_34 ?_
        refine x_iload_n 2 rfl dX6_layOut_35 ?_
        refine x_iald hp1.1 c8.1 c8.2 (xIb (n := p1n) c8 hp1.2.2) hp1.2.1 dX6_layOut_36 (fun r13 => ?_)
        refine x_dup2 rfl rfl dX6_layOut_37 ?_
        obtain ⟨c14, h⟩ := h
        refine x_iald ly248 c14.1 c14.2 r13 (by decide) dX6_layOut_38 (fun r15 => ?_)
        refine x_iconst dX6_layOut_39 ?_
        refine x_iadd dX6_layOut_40 ?_
        obtain ⟨c16, h⟩ := h
        refine x_iast ly248 c14.1 c14.2 r13 c16 (by decide) dX6_layOut_41 (fun μ17 e19 n18 => ?_)
        have h := h μ17 e19 n18
        refine x_iinc 2 rfl [(2, iV (l2_3 + 1)), (0, .ref (x.2.2.1 + 247)), (1, .ref (x.2.2.1 + p1))] dX6_layOut_42 (show 2 < 3 by decide) rfl ?_
        refine x_goto (tgt := 10) dX6_layOut_45 (by decide) ?_
        exact x_sub [1, 2, 0] rfl (hJ10 _ _ h)
set_option maxRecDepth 100000 in
set_option maxHeartbeats 4000000 in
theorem xX6_takes (x : xX) (p1 : Int) (μ : xM) (Q : Int → xM → Prop) (hp1 : xIn p1) (h : tX6_takes p1 μ Q) : xMet x 1 yX6_takes cX6_takes 2 (some .boolean) [.ref (x.2.2.1 + 247), iV p1] μ (xQz x Q) := by
  refine xMet_of (by decide +kernel) (Nat.le_of_ble_eq_true rfl) ?_
  show xW x (xRm 1, RX6, cX6_takes, 2, (some .boolean), fun _ _ => True) (xQz x Q) 0 [(0, .ref (x.2.2.1 + 247)), (1, iV p1)] [] μ
  refine x_ran (fun n0 => ?_)
  have h := h n0 hp1
  refine x_iload_n 1 rfl dX6_takes_0 ?_
  refine x_iflt (tgt := 20) hp1  dX6_takes_1 (by decide) (fun k1 => ?_) (fun k1 => ?_)
  · have h := h.1 k1
    refine x_iconst dX6_takes_20 ?_
    exact x_zret h (Or.inl rfl) rfl dX6_takes_21
  · have h := h.2 k1
    refine x_iload_n 1 rfl dX6_takes_4 ?_
    refine x_bipush dX6_takes_5 (by decide) ?_
    refine x_icmpge (tgt := 20) hp1 ⟨by decide, by decide⟩ dX6_takes_7 (by decide) (fun k2 => ?_) (fun k2 => ?_)
    · have h := h.1 k2
      refine x_iconst dX6_takes_20 ?_
      exact x_zret h (Or.inl rfl) rfl dX6_takes_21
    · have h := h.2 k2
      refine x_aload_n 0 rfl dX6_takes_10 ?_
      refine x_getR (j := 2) (r := 248) ly247 (by decide) rfl rfl (by decide) inT6 fl_X6_9 dX6_takes_11 ?_
      refine x_iload_n 1 rfl dX6_takes_14 ?_
      obtain ⟨c3, h⟩ := h
      refine x_iald ly248 c3.1 c3.2 hp1 (by decide) dX6_takes_15 (fun r4 => ?_)
      refine x_iconst dX6_takes_16 ?_
      refine x_icmpge (tgt := 22) r4 ⟨by decide, by decide⟩ dX6_takes_17 (by decide) (fun k5 => ?_) (fun k5 => ?_)
      · have h := h.1 k5
        refine x_aload_n 0 rfl dX6_takes_22 ?_
        refine x_getR (j := 2) (r := 248) ly247 (by decide) rfl rfl (by decide) inT6 fl_X6_9 dX6_takes_23 ?_
        refine x_iload_n 1 rfl dX6_takes_26 ?_
        refine x_dup2 rfl rfl dX6_takes_27 ?_
        refine x_iald ly248 c3.1 c3.2 hp1 (by decide) dX6_takes_28 (fun r6 => ?_)
        refine x_iconst dX6_takes_29 ?_
        refine x_isub dX6_takes_30 ?_
        obtain ⟨c7, h⟩ := h
        refine x_iast ly248 c3.1 c3.2 hp1 c7 (by decide) dX6_takes_31 (fun μ8 e10 n9 => ?_)
        have h := h μ8 e10 n9
        refine x_iconst dX6_takes_32 ?_
        exact x_zret h (Or.inr rfl) rfl dX6_takes_33
      · have h := h.2 k5
        refine x_iconst dX6_takes_20 ?_
        exact x_zret h (Or.inl rfl) rfl dX6_takes_21
set_option maxRecDepth 100000 in
set_option maxHeartbeats 4000000 in
theorem xX6_isRow (x : xX) (p1 : Int) (μ : xM) (Q : Int → xM → Prop) (hp1 : xIn p1) (h : tX6_isRow p1 μ Q) : xMet x 4 yX6_isRow cX6_isRow 7 (some .boolean) [.ref (x.2.2.1 + 247), iV p1] μ (xQz x Q) := by
  refine xMet_of (by decide +kernel) (Nat.le_of_ble_eq_true rfl) ?_
  show xW x (xRm 4, RX6, cX6_isRow, 7, (some .boolean), fun _ _ => True) (xQz x Q) 0 [(0, .ref (x.2.2.1 + 247)), (1, iV p1)] [] μ
  refine x_ran (fun n0 => ?_)
  have h := h n0 hp1
  refine x_aload_n 0 rfl dX6_isRow_0 ?_
  refine x_getR (j := 0) (r := 39) ly247 (by decide) rfl rfl (by decide) inT6 fl_X6_15 dX6_isRow_1 ?_
  refine x_aload_n 0 rfl dX6_isRow_4 ?_
  refine x_getR (j := 0) (r := 39) ly247 (by decide) rfl rfl (by decide) inT6 fl_X6_15 dX6_isRow_5 ?_
  refine x_iconst dX6_isRow_8 ?_
  refine x_callVi (As := [iV 0]) (rest := [.ref (x.2.2.1 + 39)]) cal_X2_seenOf ins_X2_seenOf sel_X2_seenOf ly39 (by decide) rfl (xX2_seenOf x 39 0 _ _ isHouse_39 ⟨by decide, by decide⟩ h) rfl ml_X6_29 (xRoom (Nat.le_of_ble_eq_true rfl)) (Nat.le_of_ble_eq_true rfl) dX6_isRow_9 (fun r3 μ1 i4 n2 h => ?_)
  have h := h i4 n2
  refine x_callVi (As := [iV r3]) (rest := []) cal_X2_lengthOf ins_X2_lengthOf sel_X2_lengthOf ly39 (by decide) rfl (xX2_lengthOf x 39 r3 _ _ isHouse_39 i4 h) rfl ml_X6_50 (xRoom (Nat.le_of_ble_eq_true rfl)) (Nat.le_of_ble_eq_true rfl) dX6_isRow_12 (fun r7 μ5 i8 n6 h => ?_)
  have h := h i8 n6
  refine x_istore_n [(2, iV r7), (0, .ref (x.2.2.1 + 247)), (1, iV p1)] dX6_isRow_15 (show 2 < 7 by decide) rfl ?_
  refine x_aload_n 1 rfl dX6_isRow_16 ?_
  refine x_aload_n 1 rfl dX6_isRow_17 ?_
  refine x_getR (j := 0) (r := 39) ly247 (by decide) rfl rfl (by decide) inT6 fl_X6_15 dX6_isRow_18 ?_
  refine x_aload_n 1 rfl dX6_isRow_21 ?_
  refine x_getR (j := 0) (r := 39) ly247 (by decide) rfl rfl (by decide) inT6 fl_X6_15 dX6_isRow_22 ?_
  refine x_iconst dX6_isRow_25 ?_
  refine x_callVi (As := [iV 0]) (rest := [.ref (x.2.2.1 + 39), .ref (x.2.2.1 + 247)]) cal_X2_seenOf ins_X2_seenOf sel_X2_seenOf ly39 (by decide) rfl (xX2_seenOf x 39 0 _ _ isHouse_39 ⟨by decide, by decide⟩ h) rfl ml_X6_29 (xRoom (Nat.le_of_ble_eq_true rfl)) (Nat.le_of_ble_eq_true rfl) dX6_isRow_26 (fun r11 μ9 i12 n10 h => ?_)
  have h := h i12 n10
  refine x_callVr (As := [iV r11]) (rest := [.ref (x.2.2.1 + 247)]) cal_X2_glyphsOf ins_X2_glyphsOf sel_X2_glyphsOf ly39 (by decide) rfl (xX2_glyphsOf x 39 r11 _ _ isHouse_39 i12 h) rfl ml_X6_64 (xRoom (Nat.le_of_ble_eq_true rfl)) (Nat.le_of_ble_eq_true rfl) dX6_isRow_29 (fun r15 μ13 n14 h => ?_)
  obtain ⟨g16, h⟩ := h n14
  refine x_callVv (As := [.ref (x.2.2.1 + r15)]) (rest := []) cal_X6_layOut ins_X6_layOut sel_X6_layOut ly247 (by decide) rfl (xX6_layOut x r15 6 _ _ ⟨g16.1, g16.2, (by decide)⟩ h) rfl ml_X6_68 (xRoom (Nat.le_of_ble_eq_true rfl)) (Nat.le_of_ble_eq_true rfl) dX6_isRow_32 (fun μ17 n18 h => ?_)
  have h := h n18
  refine x_iconst dX6_isRow_35 ?_
  refine x_istore_n [(3, iV 0), (2, iV r7), (0, .ref (x.2.2.1 + 247)), (1, iV p1)] dX6_isRow_36 (show 3 < 7 by decide) rfl ?_
  refine x_iconst dX6_isRow_37 ?_
  refine x_istore [(4, iV 0), (3, iV 0), (2, iV r7), (0, .ref (x.2.2.1 + 247)), (1, iV p1)] dX6_isRow_38 (show 4 < 7 by decide) rfl ?_
  refine x_sub [3, 4, 2, 1, 0] rfl ?_
  refine x_loop2 (fun l3_19 l4_20 => [(0, .ref (x.2.2.1 + 247)), (1, iV p1), (2, iV r7), (3, iV l3_19), (4, iV l4_20)]) h (fun J40 l3_19 l4_20 μ21 hJ40 h n22 => ?_)
  refine x_iload 4 rfl dX6_isRow_40 ?_
  refine x_aload_n 0 rfl dX6_isRow_42 ?_
  refine x_getR (j := 0) (r := 39) ly247 (by decide) rfl rfl (by decide) inT6 fl_X6_15 dX6_isRow_43 ?_
  refine x_getI (j := 4) ly39 (by decide) rfl rfl (by decide) inT2 fl_X6_53 dX6_isRow_46 (fun r23 => ?_)
  obtain ⟨c24, h⟩ := h
  refine x_icmpge (tgt := 124) c24 r23 dX6_isRow_49 (by decide) (fun k25 => ?_) (fun k25 => ?_)
  · have h := h.1 k25
    refine x_iconst dX6_isRow_124 ?_
    exact x_zret h (Or.inr rfl) rfl dX6_isRow_125
  · have h := h.2 k25
    refine x_iload_n 1 rfl dX6_isRow_52 ?_
    refine x_iload 4 rfl dX6_isRow_53 ?_
    refine x_ishr dX6_isRow_55 ?_
    refine x_iconst dX6_isRow_56 ?_
    refine x_iand dX6_isRow_57 ?_
    refine x_iconst dX6_isRow_58 ?_
    refine x_icmpne (tgt := 118) (xAnd_in _ _) ⟨by decide, by decide⟩ dX6_isRow_59 (by decide) (fun k26 => ?_) (fun k26 => ?_)
    · have h := h.1 k26
      refine x_iinc 4 rfl [(4, iV (l4_20 + 1)), (0, .ref (x.2.2.1 + 247)), (1, iV p1), (2, iV r7), (3, iV l3_19)] dX6_isRow_118 (show 4 < 7 by decide) rfl ?_
      refine x_goto (tgt := 40) dX6_isRow_121 (by decide) ?_
      exact x_sub [1, 2, 3, 4, 0] rfl (hJ40 _ _ _ h)
    · have h := h.2 k26
      refine x_aload_n 0 rfl dX6_isRow_62 ?_
      refine x_getR (j := 0) (r := 39) ly247 (by decide) rfl rfl (by decide) inT6 fl_X6_15 dX6_isRow_63 ?_
      refine x_iload 4 rfl dX6_isRow_66 ?_
      refine x_callVi (As := [iV l4_20]) (rest := []) cal_X2_firstOf ins_X2_firstOf sel_X2_firstOf ly39 (by decide) rfl (xX2_firstOf x 39 l4_20 _ _ isHouse_39 c24 h) rfl ml_X6_72 (xRoom (Nat.le_of_ble_eq_true rfl)) (Nat.le_of_ble_eq_true rfl) dX6_isRow_68 (fun r29 μ27 i30 n28 h => ?_)
      have h := h i30 n28
      refine x_istore [(5, iV r29), (0, .ref (x.2.2.1 + 247)), (1, iV p1), (2, iV r7), (3, iV l3_19), (4, iV l4_20)] dX6_isRow_71 (show 5 < 7 by decide) rfl ?_
      refine x_iload_n 4 rfl dX6_isRow_73 ?_
      refine x_iload_n 3 rfl dX6_isRow_74 ?_
      obtain ⟨c31, h⟩ := h
      refine x_icmpge (tgt := 87) c31 i8 dX6_isRow_75 (by decide) (fun k32 => ?_) (fun k32 => ?_)
      · have h := h.1 k32
        refine x_aload_n 1 rfl dX6_isRow_87 ?_
        refine x_iload_n 4 rfl dX6_isRow_88 ?_
        refine x_iload_n 3 rfl dX6_isRow_89 ?_
        refine x_isub dX6_isRow_90 ?_
        refine x_iconst dX6_isRow_91 ?_
        refine x_iadd dX6_isRow_92 ?_
        obtain ⟨c33, h⟩ := h
        refine x_callVi (As := [iV ((l3_19 - r7) + 1)]) (rest := []) cal_X6_grownBy ins_X6_grownBy sel_X6_grownBy ly247 (by decide) rfl (xX6_grownBy x ((l3_19 - r7) + 1) _ _ c33 h) rfl ml_X6_37 (xRoom (Nat.le_of_ble_eq_true rfl)) (Nat.le_of_ble_eq_true rfl) dX6_isRow_93 (fun r36 μ34 i37 n35 h => ?_)
        have h := h i37 n35
        refine x_iload 0 rfl dX6_isRow_96 ?_
        refine x_icmpne (tgt := 105) i37 i30 dX6_isRow_98 (by decide) (fun k38 => ?_) (fun k38 => ?_)
        · have h := h.1 k38
          refine x_iconst dX6_isRow_105 ?_
          refine x_istore [(6, iV 0), (5, iV r29), (0, .ref (x.2.2.1 + 247)), (1, iV p1), (2, iV r7), (3, iV l3_19), (4, iV l4_20)] dX6_isRow_106 (show 6 < 7 by decide) rfl ?_
          refine x_iload 0 rfl dX6_isRow_108 ?_
          refine x_ifne (tgt := 115) ⟨by decide, by decide⟩  dX6_isRow_110 (by decide) (fun k39 => absurd k39 (by decide)) (fun _ => ?_)
          refine x_iconst dX6_isRow_113 ?_
          exact x_zret h (Or.inl rfl) rfl dX6_isRow_114
        · have h := h.2 k38
          refine x_iconst dX6_isRow_101 ?_
          refine x_goto (tgt := 106) dX6_isRow_102 (by decide) ?_
          refine x_istore [(6, iV 1), (5, iV r29), (0, .ref (x.2.2.1 + 247)), (1, iV p1), (2, iV r7), (3, iV l3_19), (4, iV l4_20)] dX6_isRow_106 (show 6 < 7 by decide) rfl ?_
          refine x_iload 0 rfl dX6_isRow_108 ?_
          refine x_ifne (tgt := 115) ⟨by decide, by decide⟩  dX6_isRow_110 (by decide) (fun _ => ?_) (fun k40 => absurd k40 (by decide))
          refine x_iinc 5 rfl [(3, iV (l3_19 + 1)), (6, iV 1), (5, iV r29), (0, .ref (x.2.2.1 + 247)), (1, iV p1), (2, iV r7), (4, iV l4_20)] dX6_isRow_115 (show 3 < 7 by decide) rfl ?_
          refine x_iinc 6 rfl [(4, iV (l4_20 + 1)), (3, iV (l3_19 + 1)), (6, iV 1), (5, iV r29), (0, .ref (x.2.2.1 + 247)), (1, iV p1), (2, iV r7)] dX6_isRow_118 (show 4 < 7 by decide) rfl ?_
          refine x_goto (tgt := 40) dX6_isRow_121 (by decide) ?_
          exact x_sub [4, 5, 6, 1, 0] rfl (hJ40 _ _ _ h)
      · have h := h.2 k32
        refine x_aload_n 1 rfl dX6_isRow_78 ?_
        refine x_iload 0 rfl dX6_isRow_79 ?_
        refine x_callVz (As := [iV r29]) (rest := []) cal_X6_takes ins_X6_takes sel_X6_takes ly247 (by decide) rfl (xX6_takes x r29 _ _ i30 h) rfl ml_X6_75 (xRoom (Nat.le_of_ble_eq_true rfl)) (Nat.le_of_ble_eq_true rfl) dX6_isRow_81 (fun r43 μ41 i44 n42 h => ?_)
        have h := h i44 n42
        refine x_goto (tgt := 106) dX6_isRow_84 (by decide) ?_
        refine x_istore [(6, iV r43), (5, iV r29), (0, .ref (x.2.2.1 + 247)), (1, iV p1), (2, iV r7), (3, iV l3_19), (4, iV l4_20)] dX6_isRow_106 (show 6 < 7 by decide) rfl ?_
        refine x_iload 0 rfl dX6_isRow_108 ?_
        refine x_ifne (tgt := 115) (xIz i44)  dX6_isRow_110 (by decide) (fun k45 => ?_) (fun k45 => ?_)
        · have h := h.1 (xz1 i44 k45)
          refine x_iinc 5 rfl [(3, iV (l3_19 + 1)), (6, iV r43), (5, iV r29), (0, .ref (x.2.2.1 + 247)), (1, iV p1), (2, iV r7), (4, iV l4_20)] dX6_isRow_115 (show 3 < 7 by decide) rfl ?_
          refine x_iinc 6 rfl [(4, iV (l4_20 + 1)), (3, iV (l3_19 + 1)), (6, iV r43), (5, iV r29), (0, .ref (x.2.2.1 + 247)), (1, iV p1), (2, iV r7)] dX6_isRow_118 (show 4 < 7 by decide) rfl ?_
          refine x_goto (tgt := 40) dX6_isRow_121 (by decide) ?_
          exact x_sub [4, 5, 6, 1, 0] rfl (hJ40 _ _ _ h)
        · have h := h.2 k45
          refine x_iconst dX6_isRow_113 ?_
          exact x_zret h (Or.inl rfl) rfl dX6_isRow_114
set_option maxRecDepth 100000 in
set_option maxHeartbeats 4000000 in
theorem xX6_rowsWith_b71 (x : xX) (p1 : Int) (b2 : Int) (b3 : Int) (b4 : Int) (s0 : Int) (μ : xM) (Q : Int → xM → Prop) (J38 : Int → Int → xM → Prop) (hp1 : xIn p1)  (hJ38 : ∀ (c3 c4 : Int) (ν : xM), J38 c3 c4 ν → xW x (xRm 5, RX6, cX6_rowsWith, 6, (some .int), fun _ _ => True) (xQi x Q) 38 [(0, .ref (x.2.2.1 + 247)), (1, iV p1), (2, iV b2), (3, iV c3), (4, iV c4)] [] ν) (h : tX6_rowsWith_b71 p1 b2 b3 b4 s0 μ Q J38) : xW x (xRm 5, RX6, cX6_rowsWith, 6, (some .int), fun _ _ => True) (xQi x Q) 71 [(0, .ref (x.2.2.1 + 247)), (1, iV p1), (2, iV b2), (3, iV b3), (4, iV b4)] [iV s0] μ := by
  refine x_ran (fun n0 => ?_)
  have h := h n0
  refine x_istore [(5, iV s0), (0, .ref (x.2.2.1 + 247)), (1, iV p1), (2, iV b2), (3, iV b3), (4, iV b4)] dX6_rowsWith_71 (show 5 < 6 by decide) rfl ?_
  refine x_iload 0 rfl dX6_rowsWith_73 ?_
  obtain ⟨c25, h⟩ := h
  refine x_ifeq (tgt := 99) c25  dX6_rowsWith_75 (by decide) (fun k26 => ?_) (fun k26 => ?_)
  · have h := h.1 k26
    refine x_iinc 5 rfl [(4, iV (b4 + 1)), (5, iV s0), (0, .ref (x.2.2.1 + 247)), (1, iV p1), (2, iV b2), (3, iV b3)] dX6_rowsWith_99 (show 4 < 6 by decide) rfl ?_
    refine x_goto (tgt := 38) dX6_rowsWith_102 (by decide) ?_
    exact x_sub [2, 3, 4, 5, 0] rfl (hJ38 _ _ _ h)
  · have h := h.2 k26
    refine x_iload 5 rfl dX6_rowsWith_78 ?_
    obtain ⟨c27, h⟩ := h
    refine x_callSi (As := [iV b4]) (rest := []) cal_J6_bitCount_0f7a4 sta_J6_bitCount_0f7a4 (xJ6_bitCount_0f7a4 x b4 _ _ c27 h) rfl ml_X6_56 (xRoom (Nat.le_of_ble_eq_true rfl)) (Nat.le_of_ble_eq_true rfl) dX6_rowsWith_80 (fun r30 μ28 i31 n29 h => ?_)
    have h := h i31 n29
    refine x_iload_n 3 rfl dX6_rowsWith_83 ?_
    obtain ⟨c32, h⟩ := h
    refine x_icmpne (tgt := 99) i31 c32 dX6_rowsWith_84 (by decide) (fun k33 => ?_) (fun k33 => ?_)
    · have h := h.1 k33
      refine x_iinc 5 rfl [(4, iV (b4 + 1)), (5, iV s0), (0, .ref (x.2.2.1 + 247)), (1, iV p1), (2, iV b2), (3, iV b3)] dX6_rowsWith_99 (show 4 < 6 by decide) rfl ?_
      refine x_goto (tgt := 38) dX6_rowsWith_102 (by decide) ?_
      exact x_sub [2, 3, 4, 5, 0] rfl (hJ38 _ _ _ h)
    · have h := h.2 k33
      refine x_aload_n 1 rfl dX6_rowsWith_87 ?_
      refine x_iload 5 rfl dX6_rowsWith_88 ?_
      refine x_callVz (As := [iV b4]) (rest := []) cal_X6_isRow ins_X6_isRow sel_X6_isRow ly247 (by decide) rfl (xX6_isRow x b4 _ _ c27 h) rfl ml_X6_61 (xRoom (Nat.le_of_ble_eq_true rfl)) (Nat.le_of_ble_eq_true rfl) dX6_rowsWith_90 (fun r36 μ34 i37 n35 h => ?_)
      have h := h i37 n35
      refine x_ifeq (tgt := 99) (xIz i37)  dX6_rowsWith_93 (by decide) (fun k38 => ?_) (fun k38 => ?_)
      · have h := h.1 k38
        refine x_iinc 5 rfl [(4, iV (b4 + 1)), (5, iV s0), (0, .ref (x.2.2.1 + 247)), (1, iV p1), (2, iV b2), (3, iV b3)] dX6_rowsWith_99 (show 4 < 6 by decide) rfl ?_
        refine x_goto (tgt := 38) dX6_rowsWith_102 (by decide) ?_
        exact x_sub [2, 3, 4, 5, 0] rfl (hJ38 _ _ _ h)
      · have h := h.2 (xz1 i37 k38)
        refine x_iinc 4 rfl [(3, iV (b3 + 1)), (5, iV s0), (0, .ref (x.2.2.1 + 247)), (1, iV p1), (2, iV b2), (4, iV b4)] dX6_rowsWith_96 (show 3 < 6 by decide) rfl ?_
        refine x_iinc 5 rfl [(4, iV (b4 + 1)), (3, iV (b3 + 1)), (5, iV s0), (0, .ref (x.2.2.1 + 247)), (1, iV p1), (2, iV b2)] dX6_rowsWith_99 (show 4 < 6 by decide) rfl ?_
        refine x_goto (tgt := 38) dX6_rowsWith_102 (by decide) ?_
        exact x_sub [3, 4, 5, 1, 0] rfl (hJ38 _ _ _ h)
set_option maxRecDepth 100000 in
set_option maxHeartbeats 4000000 in
theorem xX6_rowsWith_b66 (x : xX) (p1 : Int) (b2 : Int) (b3 : Int) (b4 : Int) (μ : xM) (Q : Int → xM → Prop) (J38 : Int → Int → xM → Prop) (hp1 : xIn p1)  (hJ38 : ∀ (c3 c4 : Int) (ν : xM), J38 c3 c4 ν → xW x (xRm 5, RX6, cX6_rowsWith, 6, (some .int), fun _ _ => True) (xQi x Q) 38 [(0, .ref (x.2.2.1 + 247)), (1, iV p1), (2, iV b2), (3, iV c3), (4, iV c4)] [] ν) (h : tX6_rowsWith_b66 p1 b2 b3 b4 μ Q J38) : xW x (xRm 5, RX6, cX6_rowsWith, 6, (some .int), fun _ _ => True) (xQi x Q) 66 [(0, .ref (x.2.2.1 + 247)), (1, iV p1), (2, iV b2), (3, iV b3), (4, iV b4)] [] μ := by
  refine x_ran (fun n0 => ?_)
  have h := h n0
  refine x_iconst dX6_rowsWith_66 ?_
  refine x_goto (tgt := 71) dX6_rowsWith_67 (by decide) ?_
  exact x_sub [0, 1, 2, 3, 4] rfl (xX6_rowsWith_b71 x p1 b2 b3 b4 1 μ Q J38 hp1 hJ38 h)
set_option maxRecDepth 100000 in
set_option maxHeartbeats 4000000 in
theorem xX6_rowsWith (x : xX) (p1 : Int) (μ : xM) (Q : Int → xM → Prop) (hp1 : xIn p1) (h : tX6_rowsWith p1 μ Q) : xMet x 5 yX6_rowsWith cX6_rowsWith 6 (some .int) [.ref (x.2.2.1 + 247), iV p1] μ (xQi x Q) := by
  refine xMet_of (by decide +kernel) (Nat.le_of_ble_eq_true rfl) ?_
  show xW x (xRm 5, RX6, cX6_rowsWith, 6, (some .int), fun _ _ => True) (xQi x Q) 0 [(0, .ref (x.2.2.1 + 247)), (1, iV p1)] [] μ
  refine x_ran (fun n0 => ?_)
  have h := h n0 hp1
  refine x_aload_n 0 rfl dX6_rowsWith_0 ?_
  refine x_callVi (As := []) (rest := []) cal_X6_firstWrong ins_X6_firstWrong sel_X6_firstWrong ly247 (by decide) rfl (xX6_firstWrong x  _ _  h) rfl ml_X6_46 (xRoom (Nat.le_of_ble_eq_true rfl)) (Nat.le_of_ble_eq_true rfl) dX6_rowsWith_1 (fun r3 μ1 i4 n2 h => ?_)
  have h := h i4 n2
  refine x_iflt (tgt := 9) i4  dX6_rowsWith_4 (by decide) (fun k5 => ?_) (fun k5 => ?_)
  · have h := h.1 k5
    refine x_aload_n 0 rfl dX6_rowsWith_9 ?_
    refine x_getR (j := 0) (r := 39) ly247 (by decide) rfl rfl (by decide) inT6 fl_X6_15 dX6_rowsWith_10 ?_
    refine x_aload_n 0 rfl dX6_rowsWith_13 ?_
    refine x_getR (j := 0) (r := 39) ly247 (by decide) rfl rfl (by decide) inT6 fl_X6_15 dX6_rowsWith_14 ?_
    refine x_aload_n 0 rfl dX6_rowsWith_17 ?_
    refine x_getR (j := 0) (r := 39) ly247 (by decide) rfl rfl (by decide) inT6 fl_X6_15 dX6_rowsWith_18 ?_
    refine x_getI (j := 6) ly39 (by decide) rfl rfl (by decide) inT2 fl_X6_23 dX6_rowsWith_21 (fun r6 => ?_)
    refine x_iconst dX6_rowsWith_24 ?_
    refine x_isub dX6_rowsWith_25 ?_
    obtain ⟨c7, h⟩ := h
    refine x_callVi (As := [iV ((μ1 39 6) - 1)]) (rest := [.ref (x.2.2.1 + 39)]) cal_X2_seenOf ins_X2_seenOf sel_X2_seenOf ly39 (by decide) rfl (xX2_seenOf x 39 ((μ1 39 6) - 1) _ _ isHouse_39 c7 h) rfl ml_X6_29 (xRoom (Nat.le_of_ble_eq_true rfl)) (Nat.le_of_ble_eq_true rfl) dX6_rowsWith_26 (fun r10 μ8 i11 n9 h => ?_)
    have h := h i11 n9
    refine x_callVi (As := [iV r10]) (rest := []) cal_X2_lengthOf ins_X2_lengthOf sel_X2_lengthOf ly39 (by decide) rfl (xX2_lengthOf x 39 r10 _ _ isHouse_39 i11 h) rfl ml_X6_50 (xRoom (Nat.le_of_ble_eq_true rfl)) (Nat.le_of_ble_eq_true rfl) dX6_rowsWith_29 (fun r14 μ12 i15 n13 h => ?_)
    have h := h i15 n13
    refine x_istore_n [(2, iV r14), (0, .ref (x.2.2.1 + 247)), (1, iV p1)] dX6_rowsWith_32 (show 2 < 6 by decide) rfl ?_
    refine x_iconst dX6_rowsWith_33 ?_
    refine x_istore_n [(3, iV 0), (2, iV r14), (0, .ref (x.2.2.1 + 247)), (1, iV p1)] dX6_rowsWith_34 (show 3 < 6 by decide) rfl ?_
    refine x_iconst dX6_rowsWith_35 ?_
    refine x_istore [(4, iV 0), (3, iV 0), (2, iV r14), (0, .ref (x.2.2.1 + 247)), (1, iV p1)] dX6_rowsWith_36 (show 4 < 6 by decide) rfl ?_
    refine x_sub [3, 4, 2, 1, 0] rfl ?_
    refine x_loop2 (fun l3_16 l4_17 => [(0, .ref (x.2.2.1 + 247)), (1, iV p1), (2, iV r14), (3, iV l3_16), (4, iV l4_17)]) h (fun J38 l3_16 l4_17 μ18 hJ38 h n19 => ?_)
    refine x_iload 4 rfl dX6_rowsWith_38 ?_
    refine x_iconst dX6_rowsWith_40 ?_
    refine x_aload_n 0 rfl dX6_rowsWith_41 ?_
    refine x_getR (j := 0) (r := 39) ly247 (by decide) rfl rfl (by decide) inT6 fl_X6_15 dX6_rowsWith_42 ?_
    refine x_getI (j := 4) ly39 (by decide) rfl rfl (by decide) inT2 fl_X6_53 dX6_rowsWith_45 (fun r20 => ?_)
    refine x_ishl dX6_rowsWith_48 ?_
    obtain ⟨c21, h⟩ := h
    refine x_icmpge (tgt := 105) c21 (xShl_in _ _) dX6_rowsWith_49 (by decide) (fun k22 => ?_) (fun k22 => ?_)
    · have h := h.1 k22
      refine x_iload_n 3 rfl dX6_rowsWith_105 ?_
      obtain ⟨c23, h⟩ := h
      exact x_iret h c23 rfl dX6_rowsWith_106
    · have h := h.2 k22
      refine x_iload_n 1 rfl dX6_rowsWith_52 ?_
      refine x_iflt (tgt := 66) hp1  dX6_rowsWith_53 (by decide) (fun k24 => ?_) (fun k24 => ?_)
      · have h := h.1 k24
        exact x_sub [0, 1, 2, 3, 4] rfl (xX6_rowsWith_b66 x p1 r14 l3_16 l4_17 μ18 Q J38 hp1 hJ38 h)
      · have h := h.2 k24
        refine x_iload 4 rfl dX6_rowsWith_56 ?_
        refine x_iload_n 1 rfl dX6_rowsWith_58 ?_
        refine x_ishr dX6_rowsWith_59 ?_
        refine x_iconst dX6_rowsWith_60 ?_
        refine x_iand dX6_rowsWith_61 ?_
        refine x_iconst dX6_rowsWith_62 ?_
        refine x_icmpne (tgt := 70) (xAnd_in _ _) ⟨by decide, by decide⟩ dX6_rowsWith_63 (by decide) (fun k39 => ?_) (fun k39 => ?_)
        · have h := h.1 k39
          refine x_iconst dX6_rowsWith_70 ?_
          exact x_sub [0, 1, 2, 3, 4] rfl (xX6_rowsWith_b71 x p1 r14 l3_16 l4_17 0 μ18 Q J38 hp1 hJ38 h)
        · have h := h.2 k39
          exact x_sub [0, 1, 2, 3, 4] rfl (xX6_rowsWith_b66 x p1 r14 l3_16 l4_17 μ18 Q J38 hp1 hJ38 h)
  · have h := h.2 k5
    refine x_iconst dX6_rowsWith_7 ?_
    exact x_iret h ⟨by decide, by decide⟩ rfl dX6_rowsWith_8
set_option maxRecDepth 100000 in
set_option maxHeartbeats 4000000 in
theorem xX7_codeOf (x : xX) (p1 : Int) (p2 : Int) (p3 : Int) (μ : xM) (Q : Int → xM → Prop) (hp1 : xIn p1) (hp2 : xIn p2) (hp3 : xIn p3) (h : tX7_codeOf p1 p2 p3 μ Q) : xMet x 1 yX7_codeOf cX7_codeOf 4 (some .int) [.ref (x.2.2.1 + 236), iV p1, iV p2, iV p3] μ (xQi x Q) := by
  refine xMet_of (by decide +kernel) (Nat.le_of_ble_eq_true rfl) ?_
  show xW x (xRm 1, RX7, cX7_codeOf, 4, (some .int), fun _ _ => True) (xQi x Q) 0 [(0, .ref (x.2.2.1 + 236)), (1, iV p1), (2, iV p2), (3, iV p3)] [] μ
  refine x_ran (fun n0 => ?_)
  have h := h n0 hp1 hp2 hp3
  refine x_iload_n 1 rfl dX7_codeOf_0 ?_
  refine x_bipush dX7_codeOf_1 (by decide) ?_
  refine x_imul dX7_codeOf_3 ?_
  refine x_iload_n 2 rfl dX7_codeOf_4 ?_
  refine x_iadd dX7_codeOf_5 ?_
  refine x_bipush dX7_codeOf_6 (by decide) ?_
  refine x_imul dX7_codeOf_8 ?_
  refine x_iload_n 3 rfl dX7_codeOf_9 ?_
  refine x_iadd dX7_codeOf_10 ?_
  obtain ⟨c1, h⟩ := h
  exact x_iret h c1 rfl dX7_codeOf_11
set_option maxRecDepth 100000 in
set_option maxHeartbeats 4000000 in
theorem xX7_kindAt (x : xX) (p1 : Int) (p2 : Int) (μ : xM) (Q : Int → xM → Prop) (hp1 : xIn p1) (hp2 : xIn p2) (h : tX7_kindAt p1 p2 μ Q) : xMet x 1 yX7_kindAt cX7_kindAt 2 (some .int) [iV p1, iV p2] μ (xQi x Q) := by
  refine xMet_of (by decide +kernel) (Nat.le_of_ble_eq_true rfl) ?_
  show xW x (xRm 1, RX7, cX7_kindAt, 2, (some .int), fun _ _ => True) (xQi x Q) 0 [(0, iV p1), (1, iV p2)] [] μ
  refine x_ran (fun n0 => ?_)
  have h := h n0 hp1 hp2
  refine x_iload_n 1 rfl dX7_kindAt_0 ?_
  refine x_ifne (tgt := 12) hp2  dX7_kindAt_1 (by decide) (fun k1 => ?_) (fun k1 => ?_)
  · have h := h.1 k1
    refine x_iload_n 1 rfl dX7_kindAt_12 ?_
    refine x_iconst dX7_kindAt_13 ?_
    refine x_icmpne (tgt := 27) hp2 ⟨by decide, by decide⟩ dX7_kindAt_14 (by decide) (fun k2 => ?_) (fun k2 => ?_)
    · have h := h.1 k2
      refine x_iload_n 0 rfl dX7_kindAt_27 ?_
      refine x_bipush dX7_kindAt_28 (by decide) ?_
      refine x_irem hp1 ⟨by decide, by decide⟩ (by decide) dX7_kindAt_30 ?_
      obtain ⟨c3, h⟩ := h
      exact x_iret h c3 rfl dX7_kindAt_31
    · have h := h.2 k2
      refine x_iload_n 0 rfl dX7_kindAt_17 ?_
      refine x_bipush dX7_kindAt_18 (by decide) ?_
      refine x_idiv hp1 ⟨by decide, by decide⟩ (by decide) dX7_kindAt_20 ?_
      refine x_bipush dX7_kindAt_21 (by decide) ?_
      obtain ⟨c4, h⟩ := h
      refine x_irem c4 ⟨by decide, by decide⟩ (by decide) dX7_kindAt_23 ?_
      refine x_goto (tgt := 31) dX7_kindAt_24 (by decide) ?_
      obtain ⟨c5, h⟩ := h
      exact x_iret h c5 rfl dX7_kindAt_31
  · have h := h.2 k1
    refine x_iload_n 0 rfl dX7_kindAt_4 ?_
    refine x_sipush dX7_kindAt_5 (by decide) ?_
    refine x_idiv hp1 ⟨by decide, by decide⟩ (by decide) dX7_kindAt_8 ?_
    refine x_goto (tgt := 31) dX7_kindAt_9 (by decide) ?_
    obtain ⟨c6, h⟩ := h
    exact x_iret h c6 rfl dX7_kindAt_31
set_option maxRecDepth 100000 in
set_option maxHeartbeats 4000000 in
theorem xX7_placeOf (x : xX) (p1 : Int) (μ : xM) (Q : Int → xM → Prop) (hp1 : xIn p1) (h : tX7_placeOf p1 μ Q) : xMet x 1 yX7_placeOf cX7_placeOf 1 (some .int) [iV p1] μ (xQi x Q) := by
  refine xMet_of (by decide +kernel) (Nat.le_of_ble_eq_true rfl) ?_
  show xW x (xRm 1, RX7, cX7_placeOf, 1, (some .int), fun _ _ => True) (xQi x Q) 0 [(0, iV p1)] [] μ
  refine x_ran (fun n0 => ?_)
  have h := h n0 hp1
  refine x_iload_n 0 rfl dX7_placeOf_0 ?_
  refine x_ifne (tgt := 10) hp1  dX7_placeOf_1 (by decide) (fun k1 => ?_) (fun k1 => ?_)
  · have h := h.1 k1
    refine x_iload_n 0 rfl dX7_placeOf_10 ?_
    refine x_iconst dX7_placeOf_11 ?_
    refine x_icmpne (tgt := 20) hp1 ⟨by decide, by decide⟩ dX7_placeOf_12 (by decide) (fun k2 => ?_) (fun k2 => ?_)
    · have h := h.1 k2
      refine x_iconst dX7_placeOf_20 ?_
      exact x_iret h ⟨by decide, by decide⟩ rfl dX7_placeOf_21
    · have h := h.2 k2
      refine x_bipush dX7_placeOf_15 (by decide) ?_
      refine x_goto (tgt := 21) dX7_placeOf_17 (by decide) ?_
      exact x_iret h ⟨by decide, by decide⟩ rfl dX7_placeOf_21
  · have h := h.2 k1
    refine x_sipush dX7_placeOf_4 (by decide) ?_
    refine x_goto (tgt := 21) dX7_placeOf_7 (by decide) ?_
    exact x_iret h ⟨by decide, by decide⟩ rfl dX7_placeOf_21
set_option maxRecDepth 100000 in
set_option maxHeartbeats 4000000 in
theorem xX7_gather (x : xX) (p1 : Nat) (μ : xM) (Q : xM → Prop) (hp1 : isNight p1) (h : tX7_gather p1 μ Q) : xMet x 3 yX7_gather cX7_gather 4 none [.ref (x.2.2.1 + 236), .ref (x.2.2.1 + p1)] μ (xQv x Q) := by
  refine xMet_of (by decide +kernel) (Nat.le_of_ble_eq_true rfl) ?_
  show xW x (xRm 3, RX7, cX7_gather, 4, none, fun _ _ => True) (xQv x Q) 0 [(0, .ref (x.2.2.1 + 236)), (1, .ref (x.2.2.1 + p1))] [] μ
  refine x_ran (fun n0 => ?_)
  have h := h n0 
  refine x_aload_n 0 rfl dX7_gather_0 ?_
  refine x_getR (j := 2) (r := 237) ly236 (by decide) rfl rfl (by decide) inT7 fl_X7_9 dX7_gather_1 ?_
  refine x_iconst dX7_gather_4 ?_
  refine x_callSv (As := [.ref (x.2.2.1 + 237), iV 0]) (rest := []) cal_J7_fill_53178 sta_J7_fill_53178 (xJ7_fill_53178 x 237 26 0 _ _ ⟨ly237, (by decide), (by decide)⟩ ⟨by decide, by decide⟩ h) rfl ml_X7_69 (xRoom (Nat.le_of_ble_eq_true rfl)) (Nat.le_of_ble_eq_true rfl) dX7_gather_5 (fun μ1 n2 h => ?_)
  have h := h n2
  refine x_aload_n 0 rfl dX7_gather_8 ?_
  refine x_aload_n 1 rfl dX7_gather_9 ?_
  refine x_getI (j := 1) hp1.1 (by have := hp1.2.1; omega) rfl rfl (by decide) inT4 fl_X7_95 dX7_gather_10 (fun r3 => ?_)
  refine x_putI (j := 11) ly236 (by decide) rfl rfl (by decide) inT7 fl_X7_98 tyX7 tyX7_ok nmX7 rfl r3 (by decide +kernel) dX7_gather_13 (fun μ4 e6 n5 => ?_)
  have h := h μ4 e6 n5
  refine x_iconst dX7_gather_16 ?_
  refine x_istore_n [(2, iV 0), (0, .ref (x.2.2.1 + 236)), (1, .ref (x.2.2.1 + p1))] dX7_gather_17 (show 2 < 4 by decide) rfl ?_
  refine x_sub [1, 0] rfl ?_
  refine x_loop1 (fun l2_7 => [(0, .ref (x.2.2.1 + 236)), (2, iV l2_7)]) h (fun J18 l2_7 μ8 hJ18 h n9 => ?_)
  refine x_iload_n 1 rfl dX7_gather_18 ?_
  refine x_aload_n 0 rfl dX7_gather_19 ?_
  refine x_getI (j := 11) ly236 (by decide) rfl rfl (by decide) inT7 fl_X7_98 dX7_gather_20 (fun r10 => ?_)
  obtain ⟨c11, h⟩ := h
  refine x_icmpge (tgt := 61) c11 r10 dX7_gather_23 (by decide) (fun k12 => ?_) (fun k12 => ?_)
  · have h := h.1 k12
    exact x_vret h rfl dX7_gather_61
  · have h := h.2 k12
    refine x_aload_n 0 rfl dX7_gather_26 ?_
    refine x_getR (j := 0) (r := 39) ly236 (by decide) rfl rfl (by decide) inT7 fl_X7_35 dX7_gather_27 ?_
    refine x_iload_n 1 rfl dX7_gather_30 ?_
    refine x_callVi (As := [iV l2_7]) (rest := []) cal_X2_firstOf ins_X2_firstOf sel_X2_firstOf ly39 (by decide) rfl (xX2_firstOf x 39 l2_7 _ _ isHouse_39 c11 h) rfl ml_X7_101 (xRoom (Nat.le_of_ble_eq_true rfl)) (Nat.le_of_ble_eq_true rfl) dX7_gather_31 (fun r15 μ13 i16 n14 h => ?_)
    have h := h i16 n14
    refine x_istore_n [(3, iV r15), (0, .ref (x.2.2.1 + 236)), (2, iV l2_7)] dX7_gather_34 (show 3 < 4 by decide) rfl ?_
    refine x_iload_n 0 rfl dX7_gather_35 ?_
    refine x_iflt (tgt := 55) i16  dX7_gather_36 (by decide) (fun k17 => ?_) (fun k17 => ?_)
    · have h := h.1 k17
      refine x_iinc 2 rfl [(2, iV (l2_7 + 1)), (3, iV r15), (0, .ref (x.2.2.1 + 236))] dX7_gather_55 (show 2 < 4 by decide) rfl ?_
      refine x_goto (tgt := 18) dX7_gather_58 (by decide) ?_
      exact x_sub [2, 0] rfl (hJ18 _ _ h)
    · have h := h.2 k17
      refine x_iload_n 0 rfl dX7_gather_39 ?_
      refine x_bipush dX7_gather_40 (by decide) ?_
      refine x_icmpge (tgt := 55) i16 ⟨by decide, by decide⟩ dX7_gather_42 (by decide) (fun k18 => ?_) (fun k18 => ?_)
      · have h := h.1 k18
        refine x_iinc 2 rfl [(2, iV (l2_7 + 1)), (3, iV r15), (0, .ref (x.2.2.1 + 236))] dX7_gather_55 (show 2 < 4 by decide) rfl ?_
        refine x_goto (tgt := 18) dX7_gather_58 (by decide) ?_
        exact x_sub [2, 0] rfl (hJ18 _ _ h)
      · have h := h.2 k18
        refine x_aload_n 1 rfl dX7_gather_45 ?_
        refine x_getR (j := 2) (r := 237) ly236 (by decide) rfl rfl (by decide) inT7 fl_X7_9 dX7_gather_46 ?_
        refine x_iload_n 0 rfl dX7_gather_49 ?_
        refine x_dup2 rfl rfl dX7_gather_50 ?_
        obtain ⟨c19, h⟩ := h
        refine x_iald ly237 c19.1 c19.2 i16 (by decide) dX7_gather_51 (fun r20 => ?_)
        refine x_iconst dX7_gather_52 ?_
        refine x_iadd dX7_gather_53 ?_
        obtain ⟨c21, h⟩ := h
        refine x_iast ly237 c19.1 c19.2 i16 c21 (by decide) dX7_gather_54 (fun μ22 e24 n23 => ?_)
        have h := h μ22 e24 n23
        refine x_iinc 2 rfl [(2, iV (l2_7 + 1)), (3, iV r15), (0, .ref (x.2.2.1 + 236))] dX7_gather_55 (show 2 < 4 by decide) rfl ?_
        refine x_goto (tgt := 18) dX7_gather_58 (by decide) ?_
        exact x_sub [2, 0] rfl (hJ18 _ _ h)
