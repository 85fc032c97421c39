set_option maxRecDepth 100000 in
set_option maxHeartbeats 4000000 in
theorem xX11_laysTables (x : xX) (p1 : Int) (μ : xM) (Q : xM → Prop) (hp1 : xIn p1) (h : tX11_laysTables p1 μ Q) : xMet x 2 yX11_laysTables cX11_laysTables 3 none [.ref (x.2.2.1 + 260), iV p1] μ (xQv x Q) := by
  refine xMet_of (by decide +kernel) (Nat.le_of_ble_eq_true rfl) ?_
  show xW x (xRm 2, RX11, cX11_laysTables, 3, none, fun _ _ => True) (xQv x Q) 0 [(0, .ref (x.2.2.1 + 260)), (1, iV p1)] [] μ
  refine x_ran (fun n0 => ?_)
  have h := h n0 hp1
  refine x_iconst dX11_laysTables_0 ?_
  refine x_istore_n [(2, iV 0), (0, .ref (x.2.2.1 + 260)), (1, iV p1)] dX11_laysTables_1 (show 2 < 3 by decide) rfl ?_
  refine x_sub [1, 2, 0] rfl ?_
  refine x_loop1 (fun l2_1 => [(0, .ref (x.2.2.1 + 260)), (1, iV p1), (2, iV l2_1)]) h (fun J2 l2_1 μ2 hJ2 h n3 => ?_)
  refine x_iload_n 2 rfl dX11_laysTables_2 ?_
  refine x_iconst dX11_laysTables_3 ?_
  obtain ⟨c4, h⟩ := h
  refine x_icmpge (tgt := 24) c4 ⟨by decide, by decide⟩ dX11_laysTables_4 (by decide) (fun k5 => ?_) (fun k5 => ?_)
  · have h := h.1 k5
    exact x_vret h rfl dX11_laysTables_24
  · have h := h.2 k5
    refine x_aload_n 0 rfl dX11_laysTables_7 ?_
    refine x_getR (j := 17) (r := 265) ly260 (by decide) rfl rfl (by decide) inT11 fl_X11_26 dX11_laysTables_8 ?_
    refine x_iload_n 2 rfl dX11_laysTables_11 ?_
    refine x_iload_n 1 rfl dX11_laysTables_12 ?_
    refine x_iload_n 2 rfl dX11_laysTables_13 ?_
    refine x_callSi (As := [iV p1, iV l2_1]) (rest := [iV l2_1, .ref (x.2.2.1 + 265)]) cal_X11_wordOf sta_X11_wordOf (xX11_wordOf x p1 l2_1 _ _ hp1 c4 h) rfl ml_X11_315 (xRoom (Nat.le_of_ble_eq_true rfl)) (Nat.le_of_ble_eq_true rfl) dX11_laysTables_14 (fun r8 μ6 i9 n7 h => ?_)
    have h := h i9 n7
    obtain ⟨c10, h⟩ := h
    refine x_iast ly265 c10.1 c10.2 (xIb (n := 6) c10 (by decide)) i9 (by decide) dX11_laysTables_17 (fun μ11 e13 n12 => ?_)
    have h := h μ11 e13 n12
    refine x_iinc 2 rfl [(2, iV (l2_1 + 1)), (0, .ref (x.2.2.1 + 260)), (1, iV p1)] dX11_laysTables_18 (show 2 < 3 by decide) rfl ?_
    refine x_goto (tgt := 2) dX11_laysTables_21 (by decide) ?_
    exact x_sub [1, 2, 0] rfl (hJ2 _ _ h)
set_option maxRecDepth 100000 in
set_option maxHeartbeats 4000000 in
theorem xX11_come (x : xX) (p1 : Int) (μ : xM) (Q : Int → xM → Prop) (hp1 : xIn p1) (h : tX11_come p1 μ Q) : xMet x 30 yX11_come cX11_come 4 (some .int) [.ref (x.2.2.1 + 260), iV p1] μ (xQi x Q) := by
  refine xMet_of (by decide +kernel) (Nat.le_of_ble_eq_true rfl) ?_
  show xW x (xRm 30, RX11, cX11_come, 4, (some .int), fun _ _ => True) (xQi x Q) 0 [(0, .ref (x.2.2.1 + 260)), (1, iV p1)] [] μ
  refine x_ran (fun n0 => ?_)
  have h := h n0 hp1
  refine x_aload_n 0 rfl dX11_come_0 ?_
  refine x_callVv (As := []) (rest := []) cal_X11_good ins_X11_good sel_X11_good ly260 (by decide) rfl (xX11_good x  _ _  h) rfl ml_X11_155 (xRoom (Nat.le_of_ble_eq_true rfl)) (Nat.le_of_ble_eq_true rfl) dX11_come_1 (fun μ1 n2 h => ?_)
  have h := h n2
  refine x_aload_n 0 rfl dX11_come_4 ?_
  refine x_getI (j := 14) ly260 (by decide) rfl rfl (by decide) inT11 fl_X11_164 dX11_come_5 (fun r3 => ?_)
  refine x_ifne (tgt := 17) r3  dX11_come_8 (by decide) (fun k4 => ?_) (fun k4 => ?_)
  · have h := h.1 k4
    refine x_iload_n 1 rfl dX11_come_17 ?_
    refine x_iconst dX11_come_18 ?_
    refine x_bipush dX11_come_19 (by decide) ?_
    refine x_callSz (As := [iV p1, iV 1, iV 8]) (rest := []) cal_X11_within sta_X11_within (xX11_within x p1 1 8 _ _ hp1 ⟨by decide, by decide⟩ ⟨by decide, by decide⟩ h) rfl ml_X11_143 (xRoom (Nat.le_of_ble_eq_true rfl)) (Nat.le_of_ble_eq_true rfl) dX11_come_21 (fun r7 μ5 i8 n6 h => ?_)
    have h := h i8 n6
    refine x_ifne (tgt := 33) (xIz i8)  dX11_come_24 (by decide) (fun k9 => ?_) (fun k9 => ?_)
    · have h := h.1 (xz1 i8 k9)
      refine x_aload_n 0 rfl dX11_come_33 ?_
      refine x_getR (j := 17) (r := 265) ly260 (by decide) rfl rfl (by decide) inT11 fl_X11_26 dX11_come_34 ?_
      refine x_iconst dX11_come_37 ?_
      refine x_iald ly265 (by decide) (by decide) ⟨by decide, by decide⟩ (by decide) dX11_come_38 (fun r10 => ?_)
      refine x_aload_n 0 rfl dX11_come_39 ?_
      refine x_getR (j := 15) (r := 263) ly260 (by decide) rfl rfl (by decide) inT11 fl_X11_20 dX11_come_40 ?_
      refine x_iconst dX11_come_43 ?_
      refine x_iald ly263 (by decide) (by decide) ⟨by decide, by decide⟩ (by decide) dX11_come_44 (fun r11 => ?_)
      refine x_icmpne (tgt := 55) r10 r11 dX11_come_45 (by decide) (fun k12 => ?_) (fun k12 => ?_)
      · have h := h.1 k12
        refine x_aload_n 0 rfl dX11_come_55 ?_
        refine x_callVv (As := []) (rest := []) cal_X11_forget ins_X11_forget sel_X11_forget ly260 (by decide) rfl (xX11_forget x  _ _  h) rfl ml_X11_328 (xRoom (Nat.le_of_ble_eq_true rfl)) (Nat.le_of_ble_eq_true rfl) dX11_come_56 (fun μ13 n14 h => ?_)
        have h := h n14
        refine x_iconst dX11_come_59 ?_
        refine x_istore_n [(2, iV 0), (0, .ref (x.2.2.1 + 260)), (1, iV p1)] dX11_come_60 (show 2 < 4 by decide) rfl ?_
        refine x_sub [1, 2, 0] rfl ?_
        refine x_loop1 (fun l2_15 => [(0, .ref (x.2.2.1 + 260)), (1, iV p1), (2, iV l2_15)]) h (fun J61 l2_15 μ16 hJ61 h n17 => ?_)
        refine x_iload_n 2 rfl dX11_come_61 ?_
        refine x_iload_n 1 rfl dX11_come_62 ?_
        obtain ⟨c18, h⟩ := h
        refine x_icmpge (tgt := 147) c18 hp1 dX11_come_63 (by decide) (fun k19 => ?_) (fun k19 => ?_)
        · have h := h.1 k19
          refine x_iload_n 2 rfl dX11_come_147 ?_
          exact x_iret h c18 rfl dX11_come_148
        · have h := h.2 k19
          refine x_aload_n 0 rfl dX11_come_66 ?_
          refine x_getR (j := 17) (r := 265) ly260 (by decide) rfl rfl (by decide) inT11 fl_X11_26 dX11_come_67 ?_
          refine x_iconst dX11_come_70 ?_
          refine x_iald ly265 (by decide) (by decide) ⟨by decide, by decide⟩ (by decide) dX11_come_71 (fun r20 => ?_)
          refine x_aload_n 0 rfl dX11_come_72 ?_
          refine x_getR (j := 15) (r := 263) ly260 (by decide) rfl rfl (by decide) inT11 fl_X11_20 dX11_come_73 ?_
          refine x_iconst dX11_come_76 ?_
          refine x_iald ly263 (by decide) (by decide) ⟨by decide, by decide⟩ (by decide) dX11_come_77 (fun r21 => ?_)
          refine x_icmpge (tgt := 147) r20 r21 dX11_come_78 (by decide) (fun k22 => ?_) (fun k22 => ?_)
          · have h := h.1 k22
            refine x_iload_n 2 rfl dX11_come_147 ?_
            exact x_iret h c18 rfl dX11_come_148
          · have h := h.2 k22
            refine x_aload_n 0 rfl dX11_come_81 ?_
            refine x_aload_n 0 rfl dX11_come_82 ?_
            refine x_getR (j := 17) (r := 265) ly260 (by decide) rfl rfl (by decide) inT11 fl_X11_26 dX11_come_83 ?_
            refine x_iconst dX11_come_86 ?_
            refine x_iald ly265 (by decide) (by decide) ⟨by decide, by decide⟩ (by decide) dX11_come_87 (fun r23 => ?_)
            refine x_aload_n 0 rfl dX11_come_88 ?_
            refine x_getR (j := 17) (r := 265) ly260 (by decide) rfl rfl (by decide) inT11 fl_X11_26 dX11_come_89 ?_
            refine x_iconst dX11_come_92 ?_
            refine x_iald ly265 (by decide) (by decide) ⟨by decide, by decide⟩ (by decide) dX11_come_93 (fun r24 => ?_)
            refine x_aload_n 0 rfl dX11_come_94 ?_
            refine x_callVi (As := []) (rest := [iV (μ16 265 4), iV (μ16 265 3), .ref (x.2.2.1 + 260)]) cal_X11_code ins_X11_code sel_X11_code ly260 (by decide) rfl (xX11_code x  _ _  h) rfl ml_X11_331 (xRoom (Nat.le_of_ble_eq_true rfl)) (Nat.le_of_ble_eq_true rfl) dX11_come_95 (fun r27 μ25 i28 n26 h => ?_)
            have h := h i28 n26
            refine x_callVi (As := [iV (μ16 265 3), iV (μ16 265 4), iV r27]) (rest := []) cal_X11_seated ins_X11_seated sel_X11_seated ly260 (by decide) rfl (xX11_seated x (μ16 265 3) (μ16 265 4) r27 _ _ r23 r24 i28 h) rfl ml_X11_334 (xRoom (Nat.le_of_ble_eq_true rfl)) (Nat.le_of_ble_eq_true rfl) dX11_come_98 (fun r31 μ29 i32 n30 h => ?_)
            have h := h i32 n30
            refine x_istore_n [(3, iV r31), (0, .ref (x.2.2.1 + 260)), (1, iV p1), (2, iV l2_15)] dX11_come_101 (show 3 < 4 by decide) rfl ?_
            refine x_iload_n 0 rfl dX11_come_102 ?_
            refine x_ifge (tgt := 126) i32  dX11_come_103 (by decide) (fun k33 => ?_) (fun k33 => ?_)
            · have h := h.1 k33
              refine x_aload_n 1 rfl dX11_come_126 ?_
              refine x_iload_n 0 rfl dX11_come_127 ?_
              refine x_callVv (As := [iV r31]) (rest := []) cal_X11_laysTables ins_X11_laysTables sel_X11_laysTables ly260 (by decide) rfl (xX11_laysTables x r31 _ _ i32 h) rfl ml_X11_337 (xRoom (Nat.le_of_ble_eq_true rfl)) (Nat.le_of_ble_eq_true rfl) dX11_come_128 (fun μ34 n35 h => ?_)
              have h := h n35
              refine x_aload_n 1 rfl dX11_come_131 ?_
              refine x_getR (j := 17) (r := 265) ly260 (by decide) rfl rfl (by decide) inT11 fl_X11_26 dX11_come_132 ?_
              refine x_iconst dX11_come_135 ?_
              refine x_dup2 rfl rfl dX11_come_136 ?_
              refine x_iald ly265 (by decide) (by decide) ⟨by decide, by decide⟩ (by decide) dX11_come_137 (fun r36 => ?_)
              refine x_iconst dX11_come_138 ?_
              refine x_iadd dX11_come_139 ?_
              obtain ⟨c37, h⟩ := h
              refine x_iast ly265 (by decide) (by decide) ⟨by decide, by decide⟩ c37 (by decide) dX11_come_140 (fun μ38 e40 n39 => ?_)
              have h := h μ38 e40 n39
              refine x_iinc 3 rfl [(2, iV (l2_15 + 1)), (3, iV r31), (0, .ref (x.2.2.1 + 260)), (1, iV p1)] dX11_come_141 (show 2 < 4 by decide) rfl ?_
              refine x_goto (tgt := 61) dX11_come_144 (by decide) ?_
              exact x_sub [2, 3, 0] rfl (hJ61 _ _ h)
            · have h := h.2 k33
              refine x_aload_n 1 rfl dX11_come_106 ?_
              refine x_getR (j := 17) (r := 265) ly260 (by decide) rfl rfl (by decide) inT11 fl_X11_26 dX11_come_107 ?_
              refine x_iconst dX11_come_110 ?_
              refine x_dup2 rfl rfl dX11_come_111 ?_
              refine x_iald ly265 (by decide) (by decide) ⟨by decide, by decide⟩ (by decide) dX11_come_112 (fun r41 => ?_)
              refine x_iconst dX11_come_113 ?_
              refine x_aload_n 1 rfl dX11_come_114 ?_
              refine x_getR (j := 17) (r := 265) ly260 (by decide) rfl rfl (by decide) inT11 fl_X11_26 dX11_come_115 ?_
              refine x_iconst dX11_come_118 ?_
              refine x_iald ly265 (by decide) (by decide) ⟨by decide, by decide⟩ (by decide) dX11_come_119 (fun r42 => ?_)
              refine x_ishl dX11_come_120 ?_
              refine x_ior dX11_come_121 ?_
              refine x_iast ly265 (by decide) (by decide) ⟨by decide, by decide⟩ (xOr_in _ _) (by decide) dX11_come_122 (fun μ43 e45 n44 => ?_)
              have h := h μ43 e45 n44
              refine x_goto (tgt := 131) dX11_come_123 (by decide) ?_
              refine x_aload_n 1 rfl dX11_come_131 ?_
              refine x_getR (j := 17) (r := 265) ly260 (by decide) rfl rfl (by decide) inT11 fl_X11_26 dX11_come_132 ?_
              refine x_iconst dX11_come_135 ?_
              refine x_dup2 rfl rfl dX11_come_136 ?_
              refine x_iald ly265 (by decide) (by decide) ⟨by decide, by decide⟩ (by decide) dX11_come_137 (fun r46 => ?_)
              refine x_iconst dX11_come_138 ?_
              refine x_iadd dX11_come_139 ?_
              obtain ⟨c47, h⟩ := h
              refine x_iast ly265 (by decide) (by decide) ⟨by decide, by decide⟩ c47 (by decide) dX11_come_140 (fun μ48 e50 n49 => ?_)
              have h := h μ48 e50 n49
              refine x_iinc 3 rfl [(2, iV (l2_15 + 1)), (3, iV r31), (0, .ref (x.2.2.1 + 260)), (1, iV p1)] dX11_come_141 (show 2 < 4 by decide) rfl ?_
              refine x_goto (tgt := 61) dX11_come_144 (by decide) ?_
              exact x_sub [2, 3, 0] rfl (hJ61 _ _ h)
      · have h := h.2 k12
        refine x_aload_n 0 rfl dX11_come_48 ?_
        refine x_bipush dX11_come_49 (by decide) ?_
        refine x_callVi (As := [iV 6]) (rest := []) cal_X11_no ins_X11_no sel_X11_no ly260 (by decide) rfl (xX11_no x 6 _ _ ⟨by decide, by decide⟩ h) rfl ml_X11_158 (xRoom (Nat.le_of_ble_eq_true rfl)) (Nat.le_of_ble_eq_true rfl) dX11_come_51 (fun r53 μ51 i54 n52 h => ?_)
        have h := h i54 n52
        exact x_iret h i54 rfl dX11_come_54
    · have h := h.2 k9
      refine x_aload_n 0 rfl dX11_come_27 ?_
      refine x_iconst dX11_come_28 ?_
      refine x_callVi (As := [iV 2]) (rest := []) cal_X11_no ins_X11_no sel_X11_no ly260 (by decide) rfl (xX11_no x 2 _ _ ⟨by decide, by decide⟩ h) rfl ml_X11_158 (xRoom (Nat.le_of_ble_eq_true rfl)) (Nat.le_of_ble_eq_true rfl) dX11_come_29 (fun r57 μ55 i58 n56 h => ?_)
      have h := h i58 n56
      exact x_iret h i58 rfl dX11_come_32
  · have h := h.2 k4
    refine x_aload_n 0 rfl dX11_come_11 ?_
    refine x_iconst dX11_come_12 ?_
    refine x_callVi (As := [iV 1]) (rest := []) cal_X11_no ins_X11_no sel_X11_no ly260 (by decide) rfl (xX11_no x 1 _ _ ⟨by decide, by decide⟩ h) rfl ml_X11_158 (xRoom (Nat.le_of_ble_eq_true rfl)) (Nat.le_of_ble_eq_true rfl) dX11_come_13 (fun r61 μ59 i62 n60 h => ?_)
    have h := h i62 n60
    exact x_iret h i62 rfl dX11_come_16
set_option maxRecDepth 100000 in
set_option maxHeartbeats 4000000 in
theorem xX11_seat (x : xX) (p1 : Int) (p2 : Int) (μ : xM) (Q : Int → xM → Prop) (hp1 : xIn p1) (hp2 : xIn p2) (h : tX11_seat p1 p2 μ Q) : xMet x 4 yX11_seat cX11_seat 4 (some .boolean) [.ref (x.2.2.1 + 260), iV p1, iV p2] μ (xQz x Q) := by
  refine xMet_of (by decide +kernel) (Nat.le_of_ble_eq_true rfl) ?_
  show xW x (xRm 4, RX11, cX11_seat, 4, (some .boolean), fun _ _ => True) (xQz x Q) 0 [(0, .ref (x.2.2.1 + 260)), (1, iV p1), (2, iV p2)] [] μ
  refine x_ran (fun n0 => ?_)
  have h := h n0 hp1 hp2
  refine x_aload_n 0 rfl dX11_seat_0 ?_
  refine x_callVv (As := []) (rest := []) cal_X11_good ins_X11_good sel_X11_good ly260 (by decide) rfl (xX11_good x  _ _  h) rfl ml_X11_155 (xRoom (Nat.le_of_ble_eq_true rfl)) (Nat.le_of_ble_eq_true rfl) dX11_seat_1 (fun μ1 n2 h => ?_)
  have h := h n2
  refine x_aload_n 0 rfl dX11_seat_4 ?_
  refine x_iload_n 1 rfl dX11_seat_5 ?_
  refine x_callVz (As := [iV p1]) (rest := []) cal_X11_isTable ins_X11_isTable sel_X11_isTable ly260 (by decide) rfl (xX11_isTable x p1 _ _ hp1 h) rfl ml_X11_309 (xRoom (Nat.le_of_ble_eq_true rfl)) (Nat.le_of_ble_eq_true rfl) dX11_seat_6 (fun r5 μ3 i6 n4 h => ?_)
  have h := h i6 n4
  refine x_ifeq (tgt := 20) (xIz i6)  dX11_seat_9 (by decide) (fun k7 => ?_) (fun k7 => ?_)
  · have h := h.1 k7
    refine x_aload_n 0 rfl dX11_seat_20 ?_
    refine x_iconst dX11_seat_21 ?_
    refine x_callVz (As := [iV 1]) (rest := []) cal_X11_isNot ins_X11_isNot sel_X11_isNot ly260 (by decide) rfl (xX11_isNot x 1 _ _ ⟨by decide, by decide⟩ h) rfl ml_X11_312 (xRoom (Nat.le_of_ble_eq_true rfl)) (Nat.le_of_ble_eq_true rfl) dX11_seat_22 (fun r10 μ8 i11 n9 h => ?_)
    have h := h i11 n9
    exact x_zret h i11 rfl dX11_seat_25
  · have h := h.2 (xz1 i6 k7)
    refine x_aload_n 0 rfl dX11_seat_12 ?_
    refine x_iload_n 2 rfl dX11_seat_13 ?_
    refine x_callVz (As := [iV p2]) (rest := []) cal_X11_isWordThere ins_X11_isWordThere sel_X11_isWordThere ly260 (by decide) rfl (xX11_isWordThere x p2 _ _ hp2 h) rfl ml_X11_249 (xRoom (Nat.le_of_ble_eq_true rfl)) (Nat.le_of_ble_eq_true rfl) dX11_seat_14 (fun r14 μ12 i15 n13 h => ?_)
    have h := h i15 n13
    refine x_ifne (tgt := 26) (xIz i15)  dX11_seat_17 (by decide) (fun k16 => ?_) (fun k16 => ?_)
    · have h := h.1 (xz1 i15 k16)
      refine x_aload_n 0 rfl dX11_seat_26 ?_
      refine x_getR (j := 17) (r := 265) ly260 (by decide) rfl rfl (by decide) inT11 fl_X11_26 dX11_seat_27 ?_
      refine x_iconst dX11_seat_30 ?_
      refine x_iald ly265 (by decide) (by decide) ⟨by decide, by decide⟩ (by decide) dX11_seat_31 (fun r17 => ?_)
      refine x_aload_n 0 rfl dX11_seat_32 ?_
      refine x_getR (j := 15) (r := 263) ly260 (by decide) rfl rfl (by decide) inT11 fl_X11_20 dX11_seat_33 ?_
      refine x_iconst dX11_seat_36 ?_
      refine x_iald ly263 (by decide) (by decide) ⟨by decide, by decide⟩ (by decide) dX11_seat_37 (fun r18 => ?_)
      refine x_icmpne (tgt := 48) r17 r18 dX11_seat_38 (by decide) (fun k19 => ?_) (fun k19 => ?_)
      · have h := h.1 k19
        refine x_aload_n 0 rfl dX11_seat_48 ?_
        refine x_aload_n 0 rfl dX11_seat_49 ?_
        refine x_callVi (As := []) (rest := [.ref (x.2.2.1 + 260)]) cal_X11_code ins_X11_code sel_X11_code ly260 (by decide) rfl (xX11_code x  _ _  h) rfl ml_X11_331 (xRoom (Nat.le_of_ble_eq_true rfl)) (Nat.le_of_ble_eq_true rfl) dX11_seat_50 (fun r22 μ20 i23 n21 h => ?_)
        have h := h i23 n21
        refine x_iload_n 1 rfl dX11_seat_53 ?_
        refine x_iload_n 2 rfl dX11_seat_54 ?_
        refine x_aload_n 0 rfl dX11_seat_55 ?_
        refine x_getR (j := 15) (r := 263) ly260 (by decide) rfl rfl (by decide) inT11 fl_X11_20 dX11_seat_56 ?_
        refine x_sipush dX11_seat_59 (by decide) ?_
        refine x_aload_n 0 rfl dX11_seat_62 ?_
        refine x_getR (j := 17) (r := 265) ly260 (by decide) rfl rfl (by decide) inT11 fl_X11_26 dX11_seat_63 ?_
        refine x_iconst dX11_seat_66 ?_
        refine x_iald ly265 (by decide) (by decide) ⟨by decide, by decide⟩ (by decide) dX11_seat_67 (fun r24 => ?_)
        refine x_iadd dX11_seat_68 ?_
        obtain ⟨c25, h⟩ := h
        refine x_iald ly263 c25.1 c25.2 (xIb (n := 322) c25 (by decide)) (by decide) dX11_seat_69 (fun r26 => ?_)
        refine x_callVi (As := [iV r22, iV p1, iV p2, iV (μ20 263 ((295 + (μ20 265 4)).toNat))]) (rest := []) cal_X11_wordAfter ins_X11_wordAfter sel_X11_wordAfter ly260 (by decide) rfl (xX11_wordAfter x r22 p1 p2 (μ20 263 ((295 + (μ20 265 4)).toNat)) _ _ i23 hp1 hp2 r26 h) rfl ml_X11_325 (xRoom (Nat.le_of_ble_eq_true rfl)) (Nat.le_of_ble_eq_true rfl) dX11_seat_70 (fun r29 μ27 i30 n28 h => ?_)
        have h := h i30 n28
        refine x_istore_n [(3, iV r29), (0, .ref (x.2.2.1 + 260)), (1, iV p1), (2, iV p2)] dX11_seat_73 (show 3 < 4 by decide) rfl ?_
        refine x_iload_n 0 rfl dX11_seat_74 ?_
        refine x_ifge (tgt := 84) i30  dX11_seat_75 (by decide) (fun k31 => ?_) (fun k31 => ?_)
        · have h := h.1 k31
          refine x_aload_n 1 rfl dX11_seat_84 ?_
          refine x_iload_n 0 rfl dX11_seat_85 ?_
          refine x_callVv (As := [iV r29]) (rest := []) cal_X11_laysTables ins_X11_laysTables sel_X11_laysTables ly260 (by decide) rfl (xX11_laysTables x r29 _ _ i30 h) rfl ml_X11_337 (xRoom (Nat.le_of_ble_eq_true rfl)) (Nat.le_of_ble_eq_true rfl) dX11_seat_86 (fun μ32 n33 h => ?_)
          have h := h n33
          refine x_aload_n 1 rfl dX11_seat_89 ?_
          refine x_getR (j := 17) (r := 265) ly260 (by decide) rfl rfl (by decide) inT11 fl_X11_26 dX11_seat_90 ?_
          refine x_iconst dX11_seat_93 ?_
          refine x_dup2 rfl rfl dX11_seat_94 ?_
          refine x_iald ly265 (by decide) (by decide) ⟨by decide, by decide⟩ (by decide) dX11_seat_95 (fun r34 => ?_)
          refine x_iconst dX11_seat_96 ?_
          refine x_iadd dX11_seat_97 ?_
          obtain ⟨c35, h⟩ := h
          refine x_iast ly265 (by decide) (by decide) ⟨by decide, by decide⟩ c35 (by decide) dX11_seat_98 (fun μ36 e38 n37 => ?_)
          have h := h μ36 e38 n37
          refine x_iconst dX11_seat_99 ?_
          exact x_zret h (Or.inr rfl) rfl dX11_seat_100
        · have h := h.2 k31
          refine x_aload_n 1 rfl dX11_seat_78 ?_
          refine x_iconst dX11_seat_79 ?_
          refine x_callVz (As := [iV 5]) (rest := []) cal_X11_isNot ins_X11_isNot sel_X11_isNot ly260 (by decide) rfl (xX11_isNot x 5 _ _ ⟨by decide, by decide⟩ h) rfl ml_X11_312 (xRoom (Nat.le_of_ble_eq_true rfl)) (Nat.le_of_ble_eq_true rfl) dX11_seat_80 (fun r41 μ39 i42 n40 h => ?_)
          have h := h i42 n40
          exact x_zret h i42 rfl dX11_seat_83
      · have h := h.2 k19
        refine x_aload_n 0 rfl dX11_seat_41 ?_
        refine x_bipush dX11_seat_42 (by decide) ?_
        refine x_callVz (As := [iV 6]) (rest := []) cal_X11_isNot ins_X11_isNot sel_X11_isNot ly260 (by decide) rfl (xX11_isNot x 6 _ _ ⟨by decide, by decide⟩ h) rfl ml_X11_312 (xRoom (Nat.le_of_ble_eq_true rfl)) (Nat.le_of_ble_eq_true rfl) dX11_seat_44 (fun r45 μ43 i46 n44 h => ?_)
        have h := h i46 n44
        exact x_zret h i46 rfl dX11_seat_47
    · have h := h.2 k16
      refine x_aload_n 0 rfl dX11_seat_20 ?_
      refine x_iconst dX11_seat_21 ?_
      refine x_callVz (As := [iV 1]) (rest := []) cal_X11_isNot ins_X11_isNot sel_X11_isNot ly260 (by decide) rfl (xX11_isNot x 1 _ _ ⟨by decide, by decide⟩ h) rfl ml_X11_312 (xRoom (Nat.le_of_ble_eq_true rfl)) (Nat.le_of_ble_eq_true rfl) dX11_seat_22 (fun r49 μ47 i50 n48 h => ?_)
      have h := h i50 n48
      exact x_zret h i50 rfl dX11_seat_25
set_option maxRecDepth 100000 in
set_option maxHeartbeats 4000000 in
theorem xX11_stand (x : xX)  (μ : xM) (Q : Int → xM → Prop)  (h : tX11_stand  μ Q) : xMet x 2 yX11_stand cX11_stand 1 (some .boolean) [.ref (x.2.2.1 + 260)] μ (xQz x Q) := by
  refine xMet_of (by decide +kernel) (Nat.le_of_ble_eq_true rfl) ?_
  show xW x (xRm 2, RX11, cX11_stand, 1, (some .boolean), fun _ _ => True) (xQz x Q) 0 [(0, .ref (x.2.2.1 + 260))] [] μ
  refine x_ran (fun n0 => ?_)
  have h := h n0 
  refine x_aload_n 0 rfl dX11_stand_0 ?_
  refine x_callVv (As := []) (rest := []) cal_X11_good ins_X11_good sel_X11_good ly260 (by decide) rfl (xX11_good x  _ _  h) rfl ml_X11_155 (xRoom (Nat.le_of_ble_eq_true rfl)) (Nat.le_of_ble_eq_true rfl) dX11_stand_1 (fun μ1 n2 h => ?_)
  have h := h n2
  refine x_aload_n 0 rfl dX11_stand_4 ?_
  refine x_getI (j := 14) ly260 (by decide) rfl rfl (by decide) inT11 fl_X11_164 dX11_stand_5 (fun r3 => ?_)
  refine x_ifne (tgt := 17) r3  dX11_stand_8 (by decide) (fun k4 => ?_) (fun k4 => ?_)
  · have h := h.1 k4
    refine x_aload_n 0 rfl dX11_stand_17 ?_
    refine x_getR (j := 17) (r := 265) ly260 (by decide) rfl rfl (by decide) inT11 fl_X11_26 dX11_stand_18 ?_
    refine x_iconst dX11_stand_21 ?_
    refine x_iald ly265 (by decide) (by decide) ⟨by decide, by decide⟩ (by decide) dX11_stand_22 (fun r5 => ?_)
    refine x_aload_n 0 rfl dX11_stand_23 ?_
    refine x_getR (j := 15) (r := 263) ly260 (by decide) rfl rfl (by decide) inT11 fl_X11_20 dX11_stand_24 ?_
    refine x_iconst dX11_stand_27 ?_
    refine x_iald ly263 (by decide) (by decide) ⟨by decide, by decide⟩ (by decide) dX11_stand_28 (fun r6 => ?_)
    refine x_icmpne (tgt := 39) r5 r6 dX11_stand_29 (by decide) (fun k7 => ?_) (fun k7 => ?_)
    · have h := h.1 k7
      refine x_aload_n 0 rfl dX11_stand_39 ?_
      refine x_getR (j := 17) (r := 265) ly260 (by decide) rfl rfl (by decide) inT11 fl_X11_26 dX11_stand_40 ?_
      refine x_iconst dX11_stand_43 ?_
      refine x_dup2 rfl rfl dX11_stand_44 ?_
      refine x_iald ly265 (by decide) (by decide) ⟨by decide, by decide⟩ (by decide) dX11_stand_45 (fun r8 => ?_)
      refine x_iconst dX11_stand_46 ?_
      refine x_aload_n 0 rfl dX11_stand_47 ?_
      refine x_getR (j := 17) (r := 265) ly260 (by decide) rfl rfl (by decide) inT11 fl_X11_26 dX11_stand_48 ?_
      refine x_iconst dX11_stand_51 ?_
      refine x_iald ly265 (by decide) (by decide) ⟨by decide, by decide⟩ (by decide) dX11_stand_52 (fun r9 => ?_)
      refine x_ishl dX11_stand_53 ?_
      refine x_ior dX11_stand_54 ?_
      refine x_iast ly265 (by decide) (by decide) ⟨by decide, by decide⟩ (xOr_in _ _) (by decide) dX11_stand_55 (fun μ10 e12 n11 => ?_)
      have h := h μ10 e12 n11
      refine x_aload_n 0 rfl dX11_stand_56 ?_
      refine x_getR (j := 17) (r := 265) ly260 (by decide) rfl rfl (by decide) inT11 fl_X11_26 dX11_stand_57 ?_
      refine x_iconst dX11_stand_60 ?_
      refine x_dup2 rfl rfl dX11_stand_61 ?_
      refine x_iald ly265 (by decide) (by decide) ⟨by decide, by decide⟩ (by decide) dX11_stand_62 (fun r13 => ?_)
      refine x_iconst dX11_stand_63 ?_
      refine x_iadd dX11_stand_64 ?_
      obtain ⟨c14, h⟩ := h
      refine x_iast ly265 (by decide) (by decide) ⟨by decide, by decide⟩ c14 (by decide) dX11_stand_65 (fun μ15 e17 n16 => ?_)
      have h := h μ15 e17 n16
      refine x_iconst dX11_stand_66 ?_
      exact x_zret h (Or.inr rfl) rfl dX11_stand_67
    · have h := h.2 k7
      refine x_aload_n 0 rfl dX11_stand_32 ?_
      refine x_bipush dX11_stand_33 (by decide) ?_
      refine x_callVz (As := [iV 6]) (rest := []) cal_X11_isNot ins_X11_isNot sel_X11_isNot ly260 (by decide) rfl (xX11_isNot x 6 _ _ ⟨by decide, by decide⟩ h) rfl ml_X11_312 (xRoom (Nat.le_of_ble_eq_true rfl)) (Nat.le_of_ble_eq_true rfl) dX11_stand_35 (fun r20 μ18 i21 n19 h => ?_)
      have h := h i21 n19
      exact x_zret h i21 rfl dX11_stand_38
  · have h := h.2 k4
    refine x_aload_n 0 rfl dX11_stand_11 ?_
    refine x_iconst dX11_stand_12 ?_
    refine x_callVz (As := [iV 1]) (rest := []) cal_X11_isNot ins_X11_isNot sel_X11_isNot ly260 (by decide) rfl (xX11_isNot x 1 _ _ ⟨by decide, by decide⟩ h) rfl ml_X11_312 (xRoom (Nat.le_of_ble_eq_true rfl)) (Nat.le_of_ble_eq_true rfl) dX11_stand_13 (fun r24 μ22 i25 n23 h => ?_)
    have h := h i25 n23
    exact x_zret h i25 rfl dX11_stand_16
set_option maxRecDepth 100000 in
set_option maxHeartbeats 4000000 in
theorem xX11_can (x : xX)  (μ : xM) (Q : Int → xM → Prop)  (h : tX11_can  μ Q) : xMet x 4 yX11_can cX11_can 4 (some .int) [.ref (x.2.2.1 + 260)] μ (xQi x Q) := by
  refine xMet_of (by decide +kernel) (Nat.le_of_ble_eq_true rfl) ?_
  show xW x (xRm 4, RX11, cX11_can, 4, (some .int), fun _ _ => True) (xQi x Q) 0 [(0, .ref (x.2.2.1 + 260))] [] μ
  refine x_ran (fun n0 => ?_)
  have h := h n0 
  refine x_aload_n 0 rfl dX11_can_0 ?_
  refine x_callVv (As := []) (rest := []) cal_X11_good ins_X11_good sel_X11_good ly260 (by decide) rfl (xX11_good x  _ _  h) rfl ml_X11_155 (xRoom (Nat.le_of_ble_eq_true rfl)) (Nat.le_of_ble_eq_true rfl) dX11_can_1 (fun μ1 n2 h => ?_)
  have h := h n2
  refine x_aload_n 0 rfl dX11_can_4 ?_
  refine x_getI (j := 14) ly260 (by decide) rfl rfl (by decide) inT11 fl_X11_164 dX11_can_5 (fun r3 => ?_)
  refine x_ifne (tgt := 17) r3  dX11_can_8 (by decide) (fun k4 => ?_) (fun k4 => ?_)
  · have h := h.1 k4
    refine x_aload_n 0 rfl dX11_can_17 ?_
    refine x_getR (j := 17) (r := 265) ly260 (by decide) rfl rfl (by decide) inT11 fl_X11_26 dX11_can_18 ?_
    refine x_iconst dX11_can_21 ?_
    refine x_iald ly265 (by decide) (by decide) ⟨by decide, by decide⟩ (by decide) dX11_can_22 (fun r5 => ?_)
    refine x_aload_n 0 rfl dX11_can_23 ?_
    refine x_getR (j := 15) (r := 263) ly260 (by decide) rfl rfl (by decide) inT11 fl_X11_20 dX11_can_24 ?_
    refine x_iconst dX11_can_27 ?_
    refine x_iald ly263 (by decide) (by decide) ⟨by decide, by decide⟩ (by decide) dX11_can_28 (fun r6 => ?_)
    refine x_icmpne (tgt := 39) r5 r6 dX11_can_29 (by decide) (fun k7 => ?_) (fun k7 => ?_)
    · have h := h.1 k7
      refine x_iconst dX11_can_39 ?_
      refine x_istore_n [(1, iV 0), (0, .ref (x.2.2.1 + 260))] dX11_can_40 (show 1 < 4 by decide) rfl ?_
      refine x_iconst dX11_can_41 ?_
      refine x_istore_n [(2, iV 0), (1, iV 0), (0, .ref (x.2.2.1 + 260))] dX11_can_42 (show 2 < 4 by decide) rfl ?_
      refine x_sub [2, 1, 0] rfl ?_
      refine x_loop2 (fun l1_8 l2_9 => [(0, .ref (x.2.2.1 + 260)), (1, iV l1_8), (2, iV l2_9)]) h (fun J43 l1_8 l2_9 μ10 hJ43 h n11 => ?_)
      refine x_iload_n 2 rfl dX11_can_43 ?_
      refine x_aload_n 0 rfl dX11_can_44 ?_
      refine x_getR (j := 15) (r := 263) ly260 (by decide) rfl rfl (by decide) inT11 fl_X11_20 dX11_can_45 ?_
      refine x_iconst dX11_can_48 ?_
      refine x_iald ly263 (by decide) (by decide) ⟨by decide, by decide⟩ (by decide) dX11_can_49 (fun r12 => ?_)
      obtain ⟨c13, h⟩ := h
      refine x_icmpge (tgt := 113) c13 r12 dX11_can_50 (by decide) (fun k14 => ?_) (fun k14 => ?_)
      · have h := h.1 k14
        refine x_iload_n 1 rfl dX11_can_113 ?_
        obtain ⟨c15, h⟩ := h
        exact x_iret h c15 rfl dX11_can_114
      · have h := h.2 k14
        refine x_iconst dX11_can_53 ?_
        refine x_istore_n [(3, iV 0), (0, .ref (x.2.2.1 + 260)), (1, iV l1_8), (2, iV l2_9)] dX11_can_54 (show 3 < 4 by decide) rfl ?_
        refine x_sub [1, 2, 3, 0] rfl ?_
        refine x_loop2 (fun l1_16 l3_17 => [(0, .ref (x.2.2.1 + 260)), (1, iV l1_16), (2, iV l2_9), (3, iV l3_17)]) h (fun J55 l1_16 l3_17 μ18 hJ55 h n19 => ?_)
        refine x_iload_n 3 rfl dX11_can_55 ?_
        refine x_aload_n 0 rfl dX11_can_56 ?_
        refine x_getR (j := 15) (r := 263) ly260 (by decide) rfl rfl (by decide) inT11 fl_X11_20 dX11_can_57 ?_
        refine x_iconst dX11_can_60 ?_
        refine x_iald ly263 (by decide) (by decide) ⟨by decide, by decide⟩ (by decide) dX11_can_61 (fun r20 => ?_)
        obtain ⟨c21, h⟩ := h
        refine x_icmpge (tgt := 107) c21 r20 dX11_can_62 (by decide) (fun k22 => ?_) (fun k22 => ?_)
        · have h := h.1 k22
          refine x_iinc 2 rfl [(2, iV (l2_9 + 1)), (0, .ref (x.2.2.1 + 260)), (1, iV l1_16), (3, iV l3_17)] dX11_can_107 (show 2 < 4 by decide) rfl ?_
          refine x_goto (tgt := 43) dX11_can_110 (by decide) ?_
          exact x_sub [1, 2, 0] rfl (hJ43 _ _ _ h)
        · have h := h.2 k22
          refine x_iload_n 1 rfl dX11_can_65 ?_
          refine x_aload_n 0 rfl dX11_can_66 ?_
          refine x_aload_n 0 rfl dX11_can_67 ?_
          refine x_callVi (As := []) (rest := [.ref (x.2.2.1 + 260), iV l1_16]) cal_X11_code ins_X11_code sel_X11_code ly260 (by decide) rfl (xX11_code x  _ _  h) rfl ml_X11_331 (xRoom (Nat.le_of_ble_eq_true rfl)) (Nat.le_of_ble_eq_true rfl) dX11_can_68 (fun r25 μ23 i26 n24 h => ?_)
          have h := h i26 n24
          refine x_iload_n 2 rfl dX11_can_71 ?_
          refine x_iload_n 3 rfl dX11_can_72 ?_
          refine x_aload_n 0 rfl dX11_can_73 ?_
          refine x_getR (j := 15) (r := 263) ly260 (by decide) rfl rfl (by decide) inT11 fl_X11_20 dX11_can_74 ?_
          refine x_sipush dX11_can_77 (by decide) ?_
          refine x_aload_n 0 rfl dX11_can_80 ?_
          refine x_getR (j := 17) (r := 265) ly260 (by decide) rfl rfl (by decide) inT11 fl_X11_26 dX11_can_81 ?_
          refine x_iconst dX11_can_84 ?_
          refine x_iald ly265 (by decide) (by decide) ⟨by decide, by decide⟩ (by decide) dX11_can_85 (fun r27 => ?_)
          refine x_iadd dX11_can_86 ?_
          obtain ⟨c28, h⟩ := h
          refine x_iald ly263 c28.1 c28.2 (xIb (n := 322) c28 (by decide)) (by decide) dX11_can_87 (fun r29 => ?_)
          obtain ⟨c30, h⟩ := h
          refine x_callVi (As := [iV r25, iV l2_9, iV l3_17, iV (μ23 263 ((295 + (μ23 265 4)).toNat))]) (rest := [iV l1_16]) cal_X11_wordAfter ins_X11_wordAfter sel_X11_wordAfter ly260 (by decide) rfl (xX11_wordAfter x r25 l2_9 l3_17 (μ23 263 ((295 + (μ23 265 4)).toNat)) _ _ i26 c30 c21 r29 h) rfl ml_X11_325 (xRoom (Nat.le_of_ble_eq_true rfl)) (Nat.le_of_ble_eq_true rfl) dX11_can_88 (fun r33 μ31 i34 n32 h => ?_)
          have h := h i34 n32
          refine x_ifge (tgt := 98) i34  dX11_can_91 (by decide) (fun k35 => ?_) (fun k35 => ?_)
          · have h := h.1 k35
            refine x_iconst dX11_can_98 ?_
            refine x_iadd dX11_can_99 ?_
            refine x_istore_n [(1, iV (l1_16 + 1)), (0, .ref (x.2.2.1 + 260)), (2, iV l2_9), (3, iV l3_17)] dX11_can_100 (show 1 < 4 by decide) rfl ?_
            refine x_iinc 3 rfl [(3, iV (l3_17 + 1)), (1, iV (l1_16 + 1)), (0, .ref (x.2.2.1 + 260)), (2, iV l2_9)] dX11_can_101 (show 3 < 4 by decide) rfl ?_
            refine x_goto (tgt := 55) dX11_can_104 (by decide) ?_
            exact x_sub [2, 1, 3, 0] rfl (hJ55 _ _ _ h)
          · have h := h.2 k35
            refine x_iconst dX11_can_94 ?_
            refine x_goto (tgt := 99) dX11_can_95 (by decide) ?_
            refine x_iadd dX11_can_99 ?_
            refine x_istore_n [(1, iV (l1_16 + 0)), (0, .ref (x.2.2.1 + 260)), (2, iV l2_9), (3, iV l3_17)] dX11_can_100 (show 1 < 4 by decide) rfl ?_
            refine x_iinc 3 rfl [(3, iV (l3_17 + 1)), (1, iV (l1_16 + 0)), (0, .ref (x.2.2.1 + 260)), (2, iV l2_9)] dX11_can_101 (show 3 < 4 by decide) rfl ?_
            refine x_goto (tgt := 55) dX11_can_104 (by decide) ?_
            exact x_sub [2, 1, 3, 0] rfl (hJ55 _ _ _ h)
    · have h := h.2 k7
      refine x_aload_n 0 rfl dX11_can_32 ?_
      refine x_bipush dX11_can_33 (by decide) ?_
      refine x_callVi (As := [iV 6]) (rest := []) cal_X11_no ins_X11_no sel_X11_no ly260 (by decide) rfl (xX11_no x 6 _ _ ⟨by decide, by decide⟩ h) rfl ml_X11_158 (xRoom (Nat.le_of_ble_eq_true rfl)) (Nat.le_of_ble_eq_true rfl) dX11_can_35 (fun r38 μ36 i39 n37 h => ?_)
      have h := h i39 n37
      exact x_iret h i39 rfl dX11_can_38
  · have h := h.2 k4
    refine x_aload_n 0 rfl dX11_can_11 ?_
    refine x_iconst dX11_can_12 ?_
    refine x_callVi (As := [iV 1]) (rest := []) cal_X11_no ins_X11_no sel_X11_no ly260 (by decide) rfl (xX11_no x 1 _ _ ⟨by decide, by decide⟩ h) rfl ml_X11_158 (xRoom (Nat.le_of_ble_eq_true rfl)) (Nat.le_of_ble_eq_true rfl) dX11_can_13 (fun r42 μ40 i43 n41 h => ?_)
    have h := h i43 n41
    exact x_iret h i43 rfl dX11_can_16
set_option maxRecDepth 100000 in
set_option maxHeartbeats 4000000 in
theorem xX11_table (x : xX) (p1 : Int) (μ : xM) (Q : Int → xM → Prop) (hp1 : xIn p1) (h : tX11_table p1 μ Q) : xMet x 3 yX11_table cX11_table 2 (some .int) [.ref (x.2.2.1 + 260), iV p1] μ (xQi x Q) := by
  refine xMet_of (by decide +kernel) (Nat.le_of_ble_eq_true rfl) ?_
  show xW x (xRm 3, RX11, cX11_table, 2, (some .int), fun _ _ => True) (xQi x Q) 0 [(0, .ref (x.2.2.1 + 260)), (1, iV p1)] [] μ
  refine x_ran (fun n0 => ?_)
  have h := h n0 hp1
  refine x_aload_n 0 rfl dX11_table_0 ?_
  refine x_callVv (As := []) (rest := []) cal_X11_good ins_X11_good sel_X11_good ly260 (by decide) rfl (xX11_good x  _ _  h) rfl ml_X11_155 (xRoom (Nat.le_of_ble_eq_true rfl)) (Nat.le_of_ble_eq_true rfl) dX11_table_1 (fun μ1 n2 h => ?_)
  have h := h n2
  refine x_aload_n 0 rfl dX11_table_4 ?_
  refine x_iload_n 1 rfl dX11_table_5 ?_
  refine x_callVz (As := [iV p1]) (rest := []) cal_X11_isTable ins_X11_isTable sel_X11_isTable ly260 (by decide) rfl (xX11_isTable x p1 _ _ hp1 h) rfl ml_X11_309 (xRoom (Nat.le_of_ble_eq_true rfl)) (Nat.le_of_ble_eq_true rfl) dX11_table_6 (fun r5 μ3 i6 n4 h => ?_)
  have h := h i6 n4
  refine x_ifeq (tgt := 37) (xIz i6)  dX11_table_9 (by decide) (fun k7 => ?_) (fun k7 => ?_)
  · have h := h.1 k7
    refine x_aload_n 0 rfl dX11_table_37 ?_
    refine x_iconst dX11_table_38 ?_
    refine x_callVi (As := [iV 1]) (rest := []) cal_X11_no ins_X11_no sel_X11_no ly260 (by decide) rfl (xX11_no x 1 _ _ ⟨by decide, by decide⟩ h) rfl ml_X11_158 (xRoom (Nat.le_of_ble_eq_true rfl)) (Nat.le_of_ble_eq_true rfl) dX11_table_39 (fun r10 μ8 i11 n9 h => ?_)
    have h := h i11 n9
    exact x_iret h i11 rfl dX11_table_42
  · have h := h.2 (xz1 i6 k7)
    refine x_aload_n 0 rfl dX11_table_12 ?_
    refine x_getR (j := 17) (r := 265) ly260 (by decide) rfl rfl (by decide) inT11 fl_X11_26 dX11_table_13 ?_
    refine x_iload_n 1 rfl dX11_table_16 ?_
    obtain ⟨c12, h⟩ := h
    refine x_iald ly265 c12.1 c12.2 hp1 (by decide) dX11_table_17 (fun r13 => ?_)
    refine x_bipush dX11_table_18 (by decide) ?_
    refine x_icmpne (tgt := 28) r13 ⟨by decide, by decide⟩ dX11_table_20 (by decide) (fun k14 => ?_) (fun k14 => ?_)
    · have h := h.1 k14
      refine x_aload_n 0 rfl dX11_table_28 ?_
      refine x_getR (j := 17) (r := 265) ly260 (by decide) rfl rfl (by decide) inT11 fl_X11_26 dX11_table_29 ?_
      refine x_iload_n 1 rfl dX11_table_32 ?_
      refine x_iald ly265 c12.1 c12.2 hp1 (by decide) dX11_table_33 (fun r15 => ?_)
      refine x_goto (tgt := 42) dX11_table_34 (by decide) ?_
      exact x_iret h r15 rfl dX11_table_42
    · have h := h.2 k14
      refine x_bipush dX11_table_23 (by decide) ?_
      refine x_goto (tgt := 42) dX11_table_25 (by decide) ?_
      exact x_iret h ⟨by decide, by decide⟩ rfl dX11_table_42
set_option maxRecDepth 100000 in
set_option maxHeartbeats 4000000 in
theorem xX11_standing (x : xX)  (μ : xM) (Q : Int → xM → Prop)  (h : tX11_standing  μ Q) : xMet x 2 yX11_standing cX11_standing 1 (some .int) [.ref (x.2.2.1 + 260)] μ (xQi x Q) := by
  refine xMet_of (by decide +kernel) (Nat.le_of_ble_eq_true rfl) ?_
  show xW x (xRm 2, RX11, cX11_standing, 1, (some .int), fun _ _ => True) (xQi x Q) 0 [(0, .ref (x.2.2.1 + 260))] [] μ
  refine x_ran (fun n0 => ?_)
  have h := h n0 
  refine x_aload_n 0 rfl dX11_standing_0 ?_
  refine x_callVv (As := []) (rest := []) cal_X11_good ins_X11_good sel_X11_good ly260 (by decide) rfl (xX11_good x  _ _  h) rfl ml_X11_155 (xRoom (Nat.le_of_ble_eq_true rfl)) (Nat.le_of_ble_eq_true rfl) dX11_standing_1 (fun μ1 n2 h => ?_)
  have h := h n2
  refine x_aload_n 0 rfl dX11_standing_4 ?_
  refine x_getI (j := 14) ly260 (by decide) rfl rfl (by decide) inT11 fl_X11_164 dX11_standing_5 (fun r3 => ?_)
  refine x_ifeq (tgt := 20) r3  dX11_standing_8 (by decide) (fun k4 => ?_) (fun k4 => ?_)
  · have h := h.1 k4
    refine x_aload_n 0 rfl dX11_standing_20 ?_
    refine x_iconst dX11_standing_21 ?_
    refine x_callVi (As := [iV 1]) (rest := []) cal_X11_no ins_X11_no sel_X11_no ly260 (by decide) rfl (xX11_no x 1 _ _ ⟨by decide, by decide⟩ h) rfl ml_X11_158 (xRoom (Nat.le_of_ble_eq_true rfl)) (Nat.le_of_ble_eq_true rfl) dX11_standing_22 (fun r7 μ5 i8 n6 h => ?_)
    have h := h i8 n6
    exact x_iret h i8 rfl dX11_standing_25
  · have h := h.2 k4
    refine x_aload_n 0 rfl dX11_standing_11 ?_
    refine x_getR (j := 17) (r := 265) ly260 (by decide) rfl rfl (by decide) inT11 fl_X11_26 dX11_standing_12 ?_
    refine x_iconst dX11_standing_15 ?_
    refine x_iald ly265 (by decide) (by decide) ⟨by decide, by decide⟩ (by decide) dX11_standing_16 (fun r9 => ?_)
    refine x_goto (tgt := 25) dX11_standing_17 (by decide) ?_
    exact x_iret h r9 rfl dX11_standing_25
set_option maxRecDepth 100000 in
set_option maxHeartbeats 4000000 in
theorem xX11_able (x : xX)  (μ : xM) (Q : Int → xM → Prop)  (h : tX11_able  μ Q) : xMet x 29 yX11_able cX11_able 1 (some .int) [.ref (x.2.2.1 + 260)] μ (xQi x Q) := by
  refine xMet_of (by decide +kernel) (Nat.le_of_ble_eq_true rfl) ?_
  show xW x (xRm 29, RX11, cX11_able, 1, (some .int), fun _ _ => True) (xQi x Q) 0 [(0, .ref (x.2.2.1 + 260))] [] μ
  refine x_ran (fun n0 => ?_)
  have h := h n0 
  refine x_aload_n 0 rfl dX11_able_0 ?_
  refine x_callVv (As := []) (rest := []) cal_X11_good ins_X11_good sel_X11_good ly260 (by decide) rfl (xX11_good x  _ _  h) rfl ml_X11_155 (xRoom (Nat.le_of_ble_eq_true rfl)) (Nat.le_of_ble_eq_true rfl) dX11_able_1 (fun μ1 n2 h => ?_)
  have h := h n2
  refine x_aload_n 0 rfl dX11_able_4 ?_
  refine x_getI (j := 14) ly260 (by decide) rfl rfl (by decide) inT11 fl_X11_164 dX11_able_5 (fun r3 => ?_)
  refine x_ifne (tgt := 17) r3  dX11_able_8 (by decide) (fun k4 => ?_) (fun k4 => ?_)
  · have h := h.1 k4
    refine x_aload_n 0 rfl dX11_able_17 ?_
    refine x_callVv (As := []) (rest := []) cal_X11_forget ins_X11_forget sel_X11_forget ly260 (by decide) rfl (xX11_forget x  _ _  h) rfl ml_X11_328 (xRoom (Nat.le_of_ble_eq_true rfl)) (Nat.le_of_ble_eq_true rfl) dX11_able_18 (fun μ5 n6 h => ?_)
    have h := h n6
    refine x_aload_n 0 rfl dX11_able_21 ?_
    refine x_iconst dX11_able_22 ?_
    refine x_callSi (As := []) (rest := [iV 0, .ref (x.2.2.1 + 260)]) cal_X11_empty sta_X11_empty (xX11_empty x  _ _  h) rfl ml_X11_340 (xRoom (Nat.le_of_ble_eq_true rfl)) (Nat.le_of_ble_eq_true rfl) dX11_able_23 (fun r9 μ7 i10 n8 h => ?_)
    have h := h i10 n8
    refine x_callVi (As := [iV 0, iV r9]) (rest := []) cal_X11_mostOf ins_X11_mostOf sel_X11_mostOf ly260 (by decide) rfl (xX11_mostOf x 12 0 r9 _ _ ⟨by decide, by decide⟩ i10 h) rfl ml_X11_322 (xRoom (Nat.le_of_ble_eq_true rfl)) (Nat.le_of_ble_eq_true rfl) dX11_able_26 (fun r13 μ11 i14 n12 h => ?_)
    have h := h i14 n12
    exact x_iret h i14 rfl dX11_able_29
  · have h := h.2 k4
    refine x_aload_n 0 rfl dX11_able_11 ?_
    refine x_iconst dX11_able_12 ?_
    refine x_callVi (As := [iV 1]) (rest := []) cal_X11_no ins_X11_no sel_X11_no ly260 (by decide) rfl (xX11_no x 1 _ _ ⟨by decide, by decide⟩ h) rfl ml_X11_158 (xRoom (Nat.le_of_ble_eq_true rfl)) (Nat.le_of_ble_eq_true rfl) dX11_able_13 (fun r17 μ15 i18 n16 h => ?_)
    have h := h i18 n16
    exact x_iret h i18 rfl dX11_able_16
set_option maxRecDepth 100000 in
set_option maxHeartbeats 4000000 in
theorem xX11_sits (x : xX) (p1 : Int) (μ : xM) (Q : Int → xM → Prop) (hp1 : xIn p1) (h : tX11_sits p1 μ Q) : xMet x 30 yX11_sits cX11_sits 6 (some .int) [.ref (x.2.2.1 + 260), iV p1] μ (xQi x Q) := by
  refine xMet_of (by decide +kernel) (Nat.le_of_ble_eq_true rfl) ?_
  show xW x (xRm 30, RX11, cX11_sits, 6, (some .int), fun _ _ => True) (xQi x Q) 0 [(0, .ref (x.2.2.1 + 260)), (1, iV p1)] [] μ
  refine x_ran (fun n0 => ?_)
  have h := h n0 hp1
  refine x_aload_n 0 rfl dX11_sits_0 ?_
  refine x_callVv (As := []) (rest := []) cal_X11_good ins_X11_good sel_X11_good ly260 (by decide) rfl (xX11_good x  _ _  h) rfl ml_X11_155 (xRoom (Nat.le_of_ble_eq_true rfl)) (Nat.le_of_ble_eq_true rfl) dX11_sits_1 (fun μ1 n2 h => ?_)
  have h := h n2
  refine x_aload_n 0 rfl dX11_sits_4 ?_
  refine x_getI (j := 14) ly260 (by decide) rfl rfl (by decide) inT11 fl_X11_164 dX11_sits_5 (fun r3 => ?_)
  refine x_ifeq (tgt := 20) r3  dX11_sits_8 (by decide) (fun k4 => ?_) (fun k4 => ?_)
  · have h := h.1 k4
    refine x_aload_n 0 rfl dX11_sits_20 ?_
    refine x_iconst dX11_sits_21 ?_
    refine x_callVi (As := [iV 1]) (rest := []) cal_X11_no ins_X11_no sel_X11_no ly260 (by decide) rfl (xX11_no x 1 _ _ ⟨by decide, by decide⟩ h) rfl ml_X11_158 (xRoom (Nat.le_of_ble_eq_true rfl)) (Nat.le_of_ble_eq_true rfl) dX11_sits_22 (fun r7 μ5 i8 n6 h => ?_)
    have h := h i8 n6
    exact x_iret h i8 rfl dX11_sits_25
  · have h := h.2 k4
    refine x_iload_n 1 rfl dX11_sits_11 ?_
    refine x_iconst dX11_sits_12 ?_
    refine x_iconst dX11_sits_13 ?_
    refine x_callSz (As := [iV p1, iV 0, iV 3]) (rest := []) cal_X11_within sta_X11_within (xX11_within x p1 0 3 _ _ hp1 ⟨by decide, by decide⟩ ⟨by decide, by decide⟩ h) rfl ml_X11_143 (xRoom (Nat.le_of_ble_eq_true rfl)) (Nat.le_of_ble_eq_true rfl) dX11_sits_14 (fun r11 μ9 i12 n10 h => ?_)
    have h := h i12 n10
    refine x_ifne (tgt := 26) (xIz i12)  dX11_sits_17 (by decide) (fun k13 => ?_) (fun k13 => ?_)
    · have h := h.1 (xz1 i12 k13)
      refine x_aload_n 0 rfl dX11_sits_26 ?_
      refine x_callVv (As := []) (rest := []) cal_X11_forget ins_X11_forget sel_X11_forget ly260 (by decide) rfl (xX11_forget x  _ _  h) rfl ml_X11_328 (xRoom (Nat.le_of_ble_eq_true rfl)) (Nat.le_of_ble_eq_true rfl) dX11_sits_27 (fun μ14 n15 h => ?_)
      have h := h n15
      refine x_callSi (As := []) (rest := []) cal_X11_empty sta_X11_empty (xX11_empty x  _ _  h) rfl ml_X11_340 (xRoom (Nat.le_of_ble_eq_true rfl)) (Nat.le_of_ble_eq_true rfl) dX11_sits_30 (fun r18 μ16 i19 n17 h => ?_)
      have h := h i19 n17
      refine x_istore_n [(2, iV r18), (0, .ref (x.2.2.1 + 260)), (1, iV p1)] dX11_sits_33 (show 2 < 6 by decide) rfl ?_
      refine x_iconst dX11_sits_34 ?_
      refine x_istore_n [(3, iV 0), (2, iV r18), (0, .ref (x.2.2.1 + 260)), (1, iV p1)] dX11_sits_35 (show 3 < 6 by decide) rfl ?_
      refine x_iconst dX11_sits_36 ?_
      refine x_istore [(4, iV 0), (3, iV 0), (2, iV r18), (0, .ref (x.2.2.1 + 260)), (1, iV p1)] dX11_sits_37 (show 4 < 6 by decide) rfl ?_
      refine x_sub [3, 4, 2, 1, 0] rfl ?_
      refine x_loop3 (fun l2_20 l3_21 l4_22 => [(0, .ref (x.2.2.1 + 260)), (1, iV p1), (2, iV l2_20), (3, iV l3_21), (4, iV l4_22)]) h (fun J39 l2_20 l3_21 l4_22 μ23 hJ39 h n24 => ?_)
      refine x_iload 4 rfl dX11_sits_39 ?_
      refine x_aload_n 0 rfl dX11_sits_41 ?_
      refine x_getR (j := 15) (r := 263) ly260 (by decide) rfl rfl (by decide) inT11 fl_X11_20 dX11_sits_42 ?_
      refine x_iconst dX11_sits_45 ?_
      refine x_iald ly263 (by decide) (by decide) ⟨by decide, by decide⟩ (by decide) dX11_sits_46 (fun r25 => ?_)
      obtain ⟨c26, h⟩ := h
      refine x_icmpge (tgt := 91) c26 r25 dX11_sits_47 (by decide) (fun k27 => ?_) (fun k27 => ?_)
      · have h := h.1 k27
        refine x_iload_n 3 rfl dX11_sits_91 ?_
        obtain ⟨c28, h⟩ := h
        exact x_iret h c28 rfl dX11_sits_92
      · have h := h.2 k27
        refine x_aload_n 0 rfl dX11_sits_50 ?_
        refine x_iload_n 1 rfl dX11_sits_51 ?_
        refine x_iload 4 rfl dX11_sits_52 ?_
        refine x_iload_n 2 rfl dX11_sits_54 ?_
        obtain ⟨c29, h⟩ := h
        refine x_callVi (As := [iV p1, iV l4_22, iV l2_20]) (rest := []) cal_X11_seated ins_X11_seated sel_X11_seated ly260 (by decide) rfl (xX11_seated x p1 l4_22 l2_20 _ _ hp1 c26 c29 h) rfl ml_X11_334 (xRoom (Nat.le_of_ble_eq_true rfl)) (Nat.le_of_ble_eq_true rfl) dX11_sits_55 (fun r32 μ30 i33 n31 h => ?_)
        have h := h i33 n31
        refine x_istore [(5, iV r32), (0, .ref (x.2.2.1 + 260)), (1, iV p1), (2, iV l2_20), (3, iV l3_21), (4, iV l4_22)] dX11_sits_58 (show 5 < 6 by decide) rfl ?_
        refine x_iload_n 4 rfl dX11_sits_60 ?_
        refine x_iload 0 rfl dX11_sits_61 ?_
        refine x_ifge (tgt := 70) i33  dX11_sits_63 (by decide) (fun k34 => ?_) (fun k34 => ?_)
        · have h := h.1 k34
          refine x_iconst dX11_sits_70 ?_
          refine x_iadd dX11_sits_71 ?_
          refine x_istore_n [(3, iV (l3_21 + 1)), (5, iV r32), (0, .ref (x.2.2.1 + 260)), (1, iV p1), (2, iV l2_20), (4, iV l4_22)] dX11_sits_72 (show 3 < 6 by decide) rfl ?_
          refine x_iload 1 rfl dX11_sits_73 ?_
          refine x_ifge (tgt := 82) i33  dX11_sits_75 (by decide) (fun k35 => ?_) (fun k35 => ?_)
          · have h := h.1 k35
            refine x_iload 1 rfl dX11_sits_82 ?_
            refine x_istore_n [(2, iV r32), (3, iV (l3_21 + 1)), (5, iV r32), (0, .ref (x.2.2.1 + 260)), (1, iV p1), (4, iV l4_22)] dX11_sits_84 (show 2 < 6 by decide) rfl ?_
            refine x_iinc 5 rfl [(4, iV (l4_22 + 1)), (2, iV r32), (3, iV (l3_21 + 1)), (5, iV r32), (0, .ref (x.2.2.1 + 260)), (1, iV p1)] dX11_sits_85 (show 4 < 6 by decide) rfl ?_
            refine x_goto (tgt := 39) dX11_sits_88 (by decide) ?_
            exact x_sub [4, 5, 1, 2, 0] rfl (hJ39 _ _ _ _ h)
          · have h := h.2 k35
            refine x_iload_n 4 rfl dX11_sits_78 ?_
            refine x_goto (tgt := 84) dX11_sits_79 (by decide) ?_
            refine x_istore_n [(2, iV l2_20), (3, iV (l3_21 + 1)), (5, iV r32), (0, .ref (x.2.2.1 + 260)), (1, iV p1), (4, iV l4_22)] dX11_sits_84 (show 2 < 6 by decide) rfl ?_
            refine x_iinc 5 rfl [(4, iV (l4_22 + 1)), (2, iV l2_20), (3, iV (l3_21 + 1)), (5, iV r32), (0, .ref (x.2.2.1 + 260)), (1, iV p1)] dX11_sits_85 (show 4 < 6 by decide) rfl ?_
            refine x_goto (tgt := 39) dX11_sits_88 (by decide) ?_
            exact x_sub [4, 5, 1, 2, 0] rfl (hJ39 _ _ _ _ h)
        · have h := h.2 k34
          refine x_iconst dX11_sits_66 ?_
          refine x_goto (tgt := 71) dX11_sits_67 (by decide) ?_
          refine x_iadd dX11_sits_71 ?_
          refine x_istore_n [(3, iV (l3_21 + 0)), (5, iV r32), (0, .ref (x.2.2.1 + 260)), (1, iV p1), (2, iV l2_20), (4, iV l4_22)] dX11_sits_72 (show 3 < 6 by decide) rfl ?_
          refine x_iload 1 rfl dX11_sits_73 ?_
          refine x_ifge (tgt := 82) i33  dX11_sits_75 (by decide) (fun k36 => ?_) (fun k36 => ?_)
          · have h := h.1 k36
            refine x_iload 1 rfl dX11_sits_82 ?_
            refine x_istore_n [(2, iV r32), (3, iV (l3_21 + 0)), (5, iV r32), (0, .ref (x.2.2.1 + 260)), (1, iV p1), (4, iV l4_22)] dX11_sits_84 (show 2 < 6 by decide) rfl ?_
            refine x_iinc 5 rfl [(4, iV (l4_22 + 1)), (2, iV r32), (3, iV (l3_21 + 0)), (5, iV r32), (0, .ref (x.2.2.1 + 260)), (1, iV p1)] dX11_sits_85 (show 4 < 6 by decide) rfl ?_
            refine x_goto (tgt := 39) dX11_sits_88 (by decide) ?_
            exact x_sub [4, 5, 1, 2, 0] rfl (hJ39 _ _ _ _ h)
          · have h := h.2 k36
            refine x_iload_n 4 rfl dX11_sits_78 ?_
            refine x_goto (tgt := 84) dX11_sits_79 (by decide) ?_
            refine x_istore_n [(2, iV l2_20), (3, iV (l3_21 + 0)), (5, iV r32), (0, .ref (x.2.2.1 + 260)), (1, iV p1), (4, iV l4_22)] dX11_sits_84 (show 2 < 6 by decide) rfl ?_
            refine x_iinc 5 rfl [(4, iV (l4_22 + 1)), (2, iV l2_20), (3, iV (l3_21 + 0)), (5, iV r32), (0, .ref (x.2.2.1 + 260)), (1, iV p1)] dX11_sits_85 (show 4 < 6 by decide) rfl ?_
            refine x_goto (tgt := 39) dX11_sits_88 (by decide) ?_
            exact x_sub [4, 5, 1, 2, 0] rfl (hJ39 _ _ _ _ h)
    · have h := h.2 k13
      refine x_aload_n 0 rfl dX11_sits_20 ?_
      refine x_iconst dX11_sits_21 ?_
      refine x_callVi (As := [iV 1]) (rest := []) cal_X11_no ins_X11_no sel_X11_no ly260 (by decide) rfl (xX11_no x 1 _ _ ⟨by decide, by decide⟩ h) rfl ml_X11_158 (xRoom (Nat.le_of_ble_eq_true rfl)) (Nat.le_of_ble_eq_true rfl) dX11_sits_22 (fun r39 μ37 i40 n38 h => ?_)
      have h := h i40 n38
      exact x_iret h i40 rfl dX11_sits_25
set_option maxRecDepth 100000 in
set_option maxHeartbeats 4000000 in
theorem xX11_lettersAt (x : xX) (p1 : Int) (μ : xM) (Q : Int → xM → Prop) (hp1 : xIn p1) (h : tX11_lettersAt p1 μ Q) : xMet x 2 yX11_lettersAt cX11_lettersAt 4 (some .int) [.ref (x.2.2.1 + 260), iV p1] μ (xQi x Q) := by
  refine xMet_of (by decide +kernel) (Nat.le_of_ble_eq_true rfl) ?_
  show xW x (xRm 2, RX11, cX11_lettersAt, 4, (some .int), fun _ _ => True) (xQi x Q) 0 [(0, .ref (x.2.2.1 + 260)), (1, iV p1)] [] μ
  refine x_ran (fun n0 => ?_)
  have h := h n0 hp1
  refine x_iconst dX11_lettersAt_0 ?_
  refine x_istore_n [(2, iV 0), (0, .ref (x.2.2.1 + 260)), (1, iV p1)] dX11_lettersAt_1 (show 2 < 4 by decide) rfl ?_
  refine x_iconst dX11_lettersAt_2 ?_
  refine x_istore_n [(3, iV 0), (2, iV 0), (0, .ref (x.2.2.1 + 260)), (1, iV p1)] dX11_lettersAt_3 (show 3 < 4 by decide) rfl ?_
  refine x_sub [2, 3, 1, 0] rfl ?_
  refine x_loop2 (fun l2_1 l3_2 => [(0, .ref (x.2.2.1 + 260)), (1, iV p1), (2, iV l2_1), (3, iV l3_2)]) h (fun J4 l2_1 l3_2 μ3 hJ4 h n4 => ?_)
  refine x_iload_n 3 rfl dX11_lettersAt_4 ?_
  refine x_iconst dX11_lettersAt_5 ?_
  obtain ⟨c5, h⟩ := h
  refine x_icmpge (tgt := 45) c5 ⟨by decide, by decide⟩ dX11_lettersAt_6 (by decide) (fun k6 => ?_) (fun k6 => ?_)
  · have h := h.1 k6
    refine x_iload_n 2 rfl dX11_lettersAt_45 ?_
    obtain ⟨c7, h⟩ := h
    exact x_iret h c7 rfl dX11_lettersAt_46
  · have h := h.2 k6
    refine x_iload_n 2 rfl dX11_lettersAt_9 ?_
    refine x_iload_n 1 rfl dX11_lettersAt_10 ?_
    refine x_iload_n 3 rfl dX11_lettersAt_11 ?_
    refine x_callSi (As := [iV p1, iV l3_2]) (rest := [iV l2_1]) cal_X11_wordOf sta_X11_wordOf (xX11_wordOf x p1 l3_2 _ _ hp1 c5 h) rfl ml_X11_315 (xRoom (Nat.le_of_ble_eq_true rfl)) (Nat.le_of_ble_eq_true rfl) dX11_lettersAt_12 (fun r10 μ8 i11 n9 h => ?_)
    have h := h i11 n9
    refine x_bipush dX11_lettersAt_15 (by decide) ?_
    refine x_icmpne (tgt := 24) i11 ⟨by decide, by decide⟩ dX11_lettersAt_17 (by decide) (fun k12 => ?_) (fun k12 => ?_)
    · have h := h.1 k12
      refine x_aload_n 0 rfl dX11_lettersAt_24 ?_
      refine x_getR (j := 15) (r := 263) ly260 (by decide) rfl rfl (by decide) inT11 fl_X11_20 dX11_lettersAt_25 ?_
      refine x_bipush dX11_lettersAt_28 (by decide) ?_
      refine x_iload_n 1 rfl dX11_lettersAt_30 ?_
      refine x_iload_n 3 rfl dX11_lettersAt_31 ?_
      refine x_callSi (As := [iV p1, iV l3_2]) (rest := [iV 7, .ref (x.2.2.1 + 263), iV l2_1]) cal_X11_wordOf sta_X11_wordOf (xX11_wordOf x p1 l3_2 _ _ hp1 c5 h) rfl ml_X11_315 (xRoom (Nat.le_of_ble_eq_true rfl)) (Nat.le_of_ble_eq_true rfl) dX11_lettersAt_32 (fun r15 μ13 i16 n14 h => ?_)
      have h := h i16 n14
      refine x_iadd dX11_lettersAt_35 ?_
      obtain ⟨c17, h⟩ := h
      refine x_iald ly263 c17.1 c17.2 (xIb (n := 322) c17 (by decide)) (by decide) dX11_lettersAt_36 (fun r18 => ?_)
      refine x_iadd dX11_lettersAt_37 ?_
      refine x_istore_n [(2, iV (l2_1 + (μ13 263 ((7 + r15).toNat)))), (0, .ref (x.2.2.1 + 260)), (1, iV p1), (3, iV l3_2)] dX11_lettersAt_38 (show 2 < 4 by decide) rfl ?_
      refine x_iinc 3 rfl [(3, iV (l3_2 + 1)), (2, iV (l2_1 + (μ13 263 ((7 + r15).toNat)))), (0, .ref (x.2.2.1 + 260)), (1, iV p1)] dX11_lettersAt_39 (show 3 < 4 by decide) rfl ?_
      refine x_goto (tgt := 4) dX11_lettersAt_42 (by decide) ?_
      exact x_sub [2, 3, 1, 0] rfl (hJ4 _ _ _ h)
    · have h := h.2 k12
      refine x_iconst dX11_lettersAt_20 ?_
      refine x_goto (tgt := 37) dX11_lettersAt_21 (by decide) ?_
      refine x_iadd dX11_lettersAt_37 ?_
      refine x_istore_n [(2, iV (l2_1 + 0)), (0, .ref (x.2.2.1 + 260)), (1, iV p1), (3, iV l3_2)] dX11_lettersAt_38 (show 2 < 4 by decide) rfl ?_
      refine x_iinc 3 rfl [(3, iV (l3_2 + 1)), (2, iV (l2_1 + 0)), (0, .ref (x.2.2.1 + 260)), (1, iV p1)] dX11_lettersAt_39 (show 3 < 4 by decide) rfl ?_
      refine x_goto (tgt := 4) dX11_lettersAt_42 (by decide) ?_
      exact x_sub [2, 3, 1, 0] rfl (hJ4 _ _ _ h)
set_option maxRecDepth 100000 in
set_option maxHeartbeats 4000000 in
theorem xX11_areThere (x : xX) (p1 : Int) (p2 : Int) (μ : xM) (Q : Int → xM → Prop) (hp1 : xIn p1) (hp2 : xIn p2) (h : tX11_areThere p1 p2 μ Q) : xMet x 2 yX11_areThere cX11_areThere 6 (some .boolean) [.ref (x.2.2.1 + 260), iV p1, iV p2] μ (xQz x Q) := by
  refine xMet_of (by decide +kernel) (Nat.le_of_ble_eq_true rfl) ?_
  show xW x (xRm 2, RX11, cX11_areThere, 6, (some .boolean), fun _ _ => True) (xQz x Q) 0 [(0, .ref (x.2.2.1 + 260)), (1, iV p1), (2, iV p2)] [] μ
  refine x_ran (fun n0 => ?_)
  have h := h n0 hp1 hp2
  refine x_iconst dX11_areThere_0 ?_
  refine x_istore_n [(3, iV 0), (0, .ref (x.2.2.1 + 260)), (1, iV p1), (2, iV p2)] dX11_areThere_1 (show 3 < 6 by decide) rfl ?_
  refine x_sub [1, 2, 3, 0] rfl ?_
  refine x_loop1 (fun l3_1 => [(0, .ref (x.2.2.1 + 260)), (1, iV p1), (2, iV p2), (3, iV l3_1)]) h (fun J2 l3_1 μ2 hJ2 h n3 => ?_)
  refine x_iload_n 3 rfl dX11_areThere_2 ?_
  refine x_bipush dX11_areThere_3 (by decide) ?_
  obtain ⟨c4, h⟩ := h
  refine x_icmpge (tgt := 21) c4 ⟨by decide, by decide⟩ dX11_areThere_5 (by decide) (fun k5 => ?_) (fun k5 => ?_)
  · have h := h.1 k5
    refine x_iconst dX11_areThere_21 ?_
    refine x_istore_n [(3, iV 0), (0, .ref (x.2.2.1 + 260)), (1, iV p1), (2, iV p2)] dX11_areThere_22 (show 3 < 6 by decide) rfl ?_
    refine x_sub [1, 2, 3, 0] rfl ?_
    refine x_loop1 (fun l3_6 => [(0, .ref (x.2.2.1 + 260)), (1, iV p1), (2, iV p2), (3, iV l3_6)]) h (fun J23 l3_6 μ7 hJ23 h n8 => ?_)
    refine x_iload_n 3 rfl dX11_areThere_23 ?_
    refine x_iload_n 2 rfl dX11_areThere_24 ?_
    obtain ⟨c9, h⟩ := h
    refine x_icmpge (tgt := 53) c9 hp2 dX11_areThere_25 (by decide) (fun k10 => ?_) (fun k10 => ?_)
    · have h := h.1 k10
      refine x_iconst dX11_areThere_53 ?_
      refine x_istore_n [(3, iV 0), (0, .ref (x.2.2.1 + 260)), (1, iV p1), (2, iV p2)] dX11_areThere_54 (show 3 < 6 by decide) rfl ?_
      refine x_sub [1, 2, 0] rfl ?_
      refine x_loop1 (fun l3_11 => [(0, .ref (x.2.2.1 + 260)), (1, iV p1), (3, iV l3_11)]) h (fun J55 l3_11 μ12 hJ55 h n13 => ?_)
      refine x_iload_n 2 rfl dX11_areThere_55 ?_
      refine x_iconst dX11_areThere_56 ?_
      obtain ⟨c14, h⟩ := h
      refine x_icmpge (tgt := 121) c14 ⟨by decide, by decide⟩ dX11_areThere_57 (by decide) (fun k15 => ?_) (fun k15 => ?_)
      · have h := h.1 k15
        refine x_iconst dX11_areThere_121 ?_
        refine x_istore_n [(3, iV 1), (0, .ref (x.2.2.1 + 260)), (1, iV p1)] dX11_areThere_122 (show 3 < 6 by decide) rfl ?_
        refine x_iconst dX11_areThere_123 ?_
        refine x_istore [(4, iV 0), (3, iV 1), (0, .ref (x.2.2.1 + 260)), (1, iV p1)] dX11_areThere_124 (show 4 < 6 by decide) rfl ?_
        refine x_sub [2, 1, 0] rfl ?_
        refine x_loop2 (fun l3_16 l4_17 => [(0, .ref (x.2.2.1 + 260)), (3, iV l3_16), (4, iV l4_17)]) h (fun J126 l3_16 l4_17 μ18 hJ126 h n19 => ?_)
        refine x_iload 2 rfl dX11_areThere_126 ?_
        refine x_bipush dX11_areThere_128 (by decide) ?_
        obtain ⟨c20, h⟩ := h
        refine x_icmpge (tgt := 159) c20 ⟨by decide, by decide⟩ dX11_areThere_130 (by decide) (fun k21 => ?_) (fun k21 => ?_)
        · have h := h.1 k21
          refine x_iload_n 1 rfl dX11_areThere_159 ?_
          obtain ⟨c22, h⟩ := h
          exact x_zret h c22 rfl dX11_areThere_160
        · have h := h.2 k21
          refine x_iload_n 1 rfl dX11_areThere_133 ?_
          obtain ⟨c23, h⟩ := h
          refine x_ifeq (tgt := 151) c23  dX11_areThere_134 (by decide) (fun k24 => ?_) (fun k24 => ?_)
          · have h := h.1 k24
            refine x_iconst dX11_areThere_151 ?_
            refine x_istore_n [(3, iV 0), (0, .ref (x.2.2.1 + 260)), (4, iV l4_17)] dX11_areThere_152 (show 3 < 6 by decide) rfl ?_
            refine x_iinc 2 rfl [(4, iV (l4_17 + 1)), (3, iV 0), (0, .ref (x.2.2.1 + 260))] dX11_areThere_153 (show 4 < 6 by decide) rfl ?_
            refine x_goto (tgt := 126) dX11_areThere_156 (by decide) ?_
            exact x_sub [2, 1, 0] rfl (hJ126 _ _ _ h)
          · have h := h.2 k24
            refine x_aload_n 0 rfl dX11_areThere_137 ?_
            refine x_getR (j := 26) (r := 273) ly260 (by decide) rfl rfl (by decide) inT11 fl_X11_50 dX11_areThere_138 ?_
            refine x_iload 2 rfl dX11_areThere_141 ?_
            obtain ⟨c25, h⟩ := h
            refine x_iald ly273 c25.1 c25.2 (xIb (n := 26) c25 (by decide)) (by decide) dX11_areThere_143 (fun r26 => ?_)
            refine x_iflt (tgt := 151) r26  dX11_areThere_144 (by decide) (fun k27 => ?_) (fun k27 => ?_)
            · have h := h.1 k27
              refine x_iconst dX11_areThere_151 ?_
              refine x_istore_n [(3, iV 0), (0, .ref (x.2.2.1 + 260)), (4, iV l4_17)] dX11_areThere_152 (show 3 < 6 by decide) rfl ?_
              refine x_iinc 2 rfl [(4, iV (l4_17 + 1)), (3, iV 0), (0, .ref (x.2.2.1 + 260))] dX11_areThere_153 (show 4 < 6 by decide) rfl ?_
              refine x_goto (tgt := 126) dX11_areThere_156 (by decide) ?_
              exact x_sub [2, 1, 0] rfl (hJ126 _ _ _ h)
            · have h := h.2 k27
              refine x_iconst dX11_areThere_147 ?_
              refine x_goto (tgt := 152) dX11_areThere_148 (by decide) ?_
              refine x_istore_n [(3, iV 1), (0, .ref (x.2.2.1 + 260)), (4, iV l4_17)] dX11_areThere_152 (show 3 < 6 by decide) rfl ?_
              refine x_iinc 2 rfl [(4, iV (l4_17 + 1)), (3, iV 1), (0, .ref (x.2.2.1 + 260))] dX11_areThere_153 (show 4 < 6 by decide) rfl ?_
              refine x_goto (tgt := 126) dX11_areThere_156 (by decide) ?_
              exact x_sub [2, 1, 0] rfl (hJ126 _ _ _ h)
      · have h := h.2 k15
        refine x_iload_n 1 rfl dX11_areThere_60 ?_
        refine x_iload_n 2 rfl dX11_areThere_61 ?_
        refine x_callSi (As := [iV p1, iV l3_11]) (rest := []) cal_X11_wordOf sta_X11_wordOf (xX11_wordOf x p1 l3_11 _ _ hp1 c14 h) rfl ml_X11_315 (xRoom (Nat.le_of_ble_eq_true rfl)) (Nat.le_of_ble_eq_true rfl) dX11_areThere_62 (fun r30 μ28 i31 n29 h => ?_)
        have h := h i31 n29
        refine x_istore [(4, iV r30), (0, .ref (x.2.2.1 + 260)), (1, iV p1), (3, iV l3_11)] dX11_areThere_65 (show 4 < 6 by decide) rfl ?_
        refine x_iconst dX11_areThere_67 ?_
        refine x_istore [(5, iV 0), (4, iV r30), (0, .ref (x.2.2.1 + 260)), (1, iV p1), (3, iV l3_11)] dX11_areThere_68 (show 5 < 6 by decide) rfl ?_
        refine x_sub [2, 3, 4, 1, 0] rfl ?_
        refine x_loop1 (fun l5_32 => [(0, .ref (x.2.2.1 + 260)), (1, iV p1), (3, iV l3_11), (4, iV r30), (5, iV l5_32)]) h (fun J70 l5_32 μ33 hJ70 h n34 => ?_)
        refine x_iload 3 rfl dX11_areThere_70 ?_
        refine x_bipush dX11_areThere_72 (by decide) ?_
        refine x_icmpeq (tgt := 115) i31 ⟨by decide, by decide⟩ dX11_areThere_74 (by decide) (fun k35 => ?_) (fun k35 => ?_)
        · have h := h.1 k35
          refine x_iinc 2 rfl [(3, iV (l3_11 + 1)), (0, .ref (x.2.2.1 + 260)), (1, iV p1), (4, iV r30), (5, iV l5_32)] dX11_areThere_115 (show 3 < 6 by decide) rfl ?_
          refine x_goto (tgt := 55) dX11_areThere_118 (by decide) ?_
          exact x_sub [1, 2, 0] rfl (hJ55 _ _ h)
        · have h := h.2 k35
          refine x_iload 4 rfl dX11_areThere_77 ?_
          refine x_aload_n 0 rfl dX11_areThere_79 ?_
          refine x_getR (j := 15) (r := 263) ly260 (by decide) rfl rfl (by decide) inT11 fl_X11_20 dX11_areThere_80 ?_
          refine x_bipush dX11_areThere_83 (by decide) ?_
          refine x_iload 3 rfl dX11_areThere_85 ?_
          refine x_iadd dX11_areThere_87 ?_
          obtain ⟨c36, h⟩ := h
          refine x_iald ly263 c36.1 c36.2 (xIb (n := 322) c36 (by decide)) (by decide) dX11_areThere_88 (fun r37 => ?_)
          obtain ⟨c38, h⟩ := h
          refine x_icmpge (tgt := 115) c38 r37 dX11_areThere_89 (by decide) (fun k39 => ?_) (fun k39 => ?_)
          · have h := h.1 k39
            refine x_iinc 2 rfl [(3, iV (l3_11 + 1)), (0, .ref (x.2.2.1 + 260)), (1, iV p1), (4, iV r30), (5, iV l5_32)] dX11_areThere_115 (show 3 < 6 by decide) rfl ?_
            refine x_goto (tgt := 55) dX11_areThere_118 (by decide) ?_
            exact x_sub [1, 2, 0] rfl (hJ55 _ _ h)
          · have h := h.2 k39
            refine x_aload_n 0 rfl dX11_areThere_92 ?_
            refine x_getR (j := 26) (r := 273) ly260 (by decide) rfl rfl (by decide) inT11 fl_X11_50 dX11_areThere_93 ?_
            refine x_aload_n 0 rfl dX11_areThere_96 ?_
            refine x_iload 3 rfl dX11_areThere_97 ?_
            refine x_iload 4 rfl dX11_areThere_99 ?_
            refine x_callVi (As := [iV r30, iV l5_32]) (rest := [.ref (x.2.2.1 + 273)]) cal_X11_letterAt ins_X11_letterAt sel_X11_letterAt ly260 (by decide) rfl (xX11_letterAt x r30 l5_32 _ _ i31 c38 h) rfl ml_X11_243 (xRoom (Nat.le_of_ble_eq_true rfl)) (Nat.le_of_ble_eq_true rfl) dX11_areThere_101 (fun r42 μ40 i43 n41 h => ?_)
            have h := h i43 n41
            refine x_dup2 rfl rfl dX11_areThere_104 ?_
            obtain ⟨c44, h⟩ := h
            refine x_iald ly273 c44.1 c44.2 i43 (by decide) dX11_areThere_105 (fun r45 => ?_)
            refine x_iconst dX11_areThere_106 ?_
            refine x_isub dX11_areThere_107 ?_
            obtain ⟨c46, h⟩ := h
            refine x_iast ly273 c44.1 c44.2 i43 c46 (by decide) dX11_areThere_108 (fun μ47 e49 n48 => ?_)
            have h := h μ47 e49 n48
            refine x_iinc 4 rfl [(5, iV (l5_32 + 1)), (0, .ref (x.2.2.1 + 260)), (1, iV p1), (3, iV l3_11), (4, iV r30)] dX11_areThere_109 (show 5 < 6 by decide) rfl ?_
            refine x_goto (tgt := 70) dX11_areThere_112 (by decide) ?_
            exact x_sub [1, 2, 3, 4, 0] rfl (hJ70 _ _ h)
    · have h := h.2 k10
      refine x_aload_n 0 rfl dX11_areThere_28 ?_
      refine x_getR (j := 26) (r := 273) ly260 (by decide) rfl rfl (by decide) inT11 fl_X11_50 dX11_areThere_29 ?_
      refine x_aload_n 0 rfl dX11_areThere_32 ?_
      refine x_getR (j := 15) (r := 263) ly260 (by decide) rfl rfl (by decide) inT11 fl_X11_20 dX11_areThere_33 ?_
      refine x_sipush dX11_areThere_36 (by decide) ?_
      refine x_iload_n 3 rfl dX11_areThere_39 ?_
      refine x_iadd dX11_areThere_40 ?_
      obtain ⟨c50, h⟩ := h
      refine x_iald ly263 c50.1 c50.2 (xIb (n := 322) c50 (by decide)) (by decide) dX11_areThere_41 (fun r51 => ?_)
      refine x_dup2 rfl rfl dX11_areThere_42 ?_
      obtain ⟨c52, h⟩ := h
      refine x_iald ly273 c52.1 c52.2 r51 (by decide) dX11_areThere_43 (fun r53 => ?_)
      refine x_iconst dX11_areThere_44 ?_
      refine x_iadd dX11_areThere_45 ?_
      obtain ⟨c54, h⟩ := h
      refine x_iast ly273 c52.1 c52.2 r51 c54 (by decide) dX11_areThere_46 (fun μ55 e57 n56 => ?_)
      have h := h μ55 e57 n56
      refine x_iinc 3 rfl [(3, iV (l3_6 + 1)), (0, .ref (x.2.2.1 + 260)), (1, iV p1), (2, iV p2)] dX11_areThere_47 (show 3 < 6 by decide) rfl ?_
      refine x_goto (tgt := 23) dX11_areThere_50 (by decide) ?_
      exact x_sub [1, 2, 3, 0] rfl (hJ23 _ _ h)
  · have h := h.2 k5
    refine x_aload_n 0 rfl dX11_areThere_8 ?_
    refine x_getR (j := 26) (r := 273) ly260 (by decide) rfl rfl (by decide) inT11 fl_X11_50 dX11_areThere_9 ?_
    refine x_iload_n 3 rfl dX11_areThere_12 ?_
    refine x_iconst dX11_areThere_13 ?_
    obtain ⟨c58, h⟩ := h
    refine x_iast ly273 c58.1 c58.2 (xIb (n := 26) c58 (by decide)) ⟨by decide, by decide⟩ (by decide) dX11_areThere_14 (fun μ59 e61 n60 => ?_)
    have h := h μ59 e61 n60
    refine x_iinc 3 rfl [(3, iV (l3_1 + 1)), (0, .ref (x.2.2.1 + 260)), (1, iV p1), (2, iV p2)] dX11_areThere_15 (show 3 < 6 by decide) rfl ?_
    refine x_goto (tgt := 2) dX11_areThere_18 (by decide) ?_
    exact x_sub [1, 2, 3, 0] rfl (hJ2 _ _ h)
set_option maxRecDepth 100000 in
set_option maxHeartbeats 4000000 in
theorem xX11_walk_b245 (x : xX) (p1 : Int) (p2 : Int) (p3 : Int) (p4 : Int) (b5 : Int) (b6 : Int) (b7 : Int) (b8 : Int) (b9 : Int) (b10 : Int) (b13 : Int) (μ : xM) (Q : Int → xM → Prop) (J45 : Int → Int → xM → Prop) (J64 : Int → Int → xM → Prop) (J87 : Int → Int → xM → Prop) (hp1 : xIn p1) (hp2 : p2 = 0 ∨ p2 = 1) (hp3 : xIn p3) (hp4 : xIn p4)  (hJ45 : ∀ (c5 c6 : Int) (ν : xM), J45 c5 c6 ν → xW x (xRm 3, RX11, cX11_walk, 14, (some .int), fun _ _ => True) (xQi x Q) 45 [(0, .ref (x.2.2.1 + 260)), (2, iV p2), (3, iV p3), (4, iV p4), (5, iV c5), (6, iV c6)] [] ν) (hJ64 : ∀ (c5 c8 : Int) (ν : xM), J64 c5 c8 ν → xW x (xRm 3, RX11, cX11_walk, 14, (some .int), fun _ _ => True) (xQi x Q) 64 [(0, .ref (x.2.2.1 + 260)), (2, iV p2), (3, iV p3), (4, iV p4), (5, iV c5), (6, iV b6), (7, iV b7), (8, iV c8)] [] ν) (hJ87 : ∀ (c5 c10 : Int) (ν : xM), J87 c5 c10 ν → xW x (xRm 3, RX11, cX11_walk, 14, (some .int), fun _ _ => True) (xQi x Q) 87 [(0, .ref (x.2.2.1 + 260)), (2, iV p2), (3, iV p3), (4, iV p4), (5, iV c5), (6, iV b6), (7, iV b7), (8, iV b8), (9, iV b9), (10, iV c10)] [] ν) (h : tX11_walk_b245 p1 p2 p3 p4 b5 b6 b7 b8 b9 b10 b13 μ Q J45 J64 J87) : xW x (xRm 3, RX11, cX11_walk, 14, (some .int), fun _ _ => True) (xQi x Q) 245 [(0, .ref (x.2.2.1 + 260)), (2, iV p2), (3, iV p3), (4, iV p4), (5, iV b5), (6, iV b6), (7, iV b7), (8, iV b8), (9, iV b9), (10, iV b10), (13, iV b13)] [] μ := by
  refine x_ran (fun n0 => ?_)
  have h := h n0
  refine x_aload_n 0 rfl dX11_walk_245 ?_
  refine x_getR (j := 36) (r := 278) ly260 (by decide) rfl rfl (by decide) inT11 fl_X11_66 dX11_walk_246 ?_
  refine x_iload 10 rfl dX11_walk_249 ?_
  refine x_aload_n 0 rfl dX11_walk_251 ?_
  refine x_getR (j := 36) (r := 278) ly260 (by decide) rfl rfl (by decide) inT11 fl_X11_66 dX11_walk_252 ?_
  refine x_iload 6 rfl dX11_walk_255 ?_
  obtain ⟨c62, h⟩ := h
  refine x_iald ly278 c62.1 c62.2 (xIb (n := 15625) c62 (by decide)) (by decide) dX11_walk_257 (fun r63 => ?_)
  refine x_iconst dX11_walk_258 ?_
  refine x_iadd dX11_walk_259 ?_
  obtain ⟨c64, h⟩ := h
  obtain ⟨c65, h⟩ := h
  refine x_iast ly278 c64.1 c64.2 (xIb (n := 15625) c64 (by decide)) c65 (by decide) dX11_walk_260 (fun μ66 e68 n67 => ?_)
  have h := h μ66 e68 n67
  refine x_aload_n 0 rfl dX11_walk_261 ?_
  refine x_getR (j := 35) (r := 277) ly260 (by decide) rfl rfl (by decide) inT11 fl_X11_63 dX11_walk_262 ?_
  refine x_iload 4 rfl dX11_walk_265 ?_
  refine x_iload 10 rfl dX11_walk_267 ?_
  obtain ⟨c69, h⟩ := h
  obtain ⟨c70, h⟩ := h
  refine x_iast ly277 c69.1 c69.2 (xIb (n := 15625) c69 (by decide)) c70 (by decide) dX11_walk_269 (fun μ71 e73 n72 => ?_)
  have h := h μ71 e73 n72
  refine x_iinc 4 rfl [(5, iV (b5 + 1)), (0, .ref (x.2.2.1 + 260)), (2, iV p2), (3, iV p3), (4, iV p4), (6, iV b6), (7, iV b7), (8, iV b8), (9, iV b9), (10, iV b10), (13, iV b13)] dX11_walk_270 (show 5 < 14 by decide) rfl ?_
  refine x_iinc 9 rfl [(10, iV (b10 + 1)), (5, iV (b5 + 1)), (0, .ref (x.2.2.1 + 260)), (2, iV p2), (3, iV p3), (4, iV p4), (6, iV b6), (7, iV b7), (8, iV b8), (9, iV b9), (13, iV b13)] dX11_walk_273 (show 10 < 14 by decide) rfl ?_
  refine x_goto (tgt := 87) dX11_walk_276 (by decide) ?_
  exact x_sub [2, 3, 4, 5, 1, 6, 7, 8, 9, 0] rfl (hJ87 _ _ _ h)
set_option maxRecDepth 100000 in
set_option maxHeartbeats 4000000 in
theorem xX11_walk_b193 (x : xX) (p1 : Int) (p2 : Int) (p3 : Int) (p4 : Int) (b5 : Int) (b6 : Int) (b7 : Int) (b8 : Int) (b9 : Int) (b10 : Int) (b11 : Int) (μ : xM) (Q : Int → xM → Prop) (J45 : Int → Int → xM → Prop) (J64 : Int → Int → xM → Prop) (J87 : Int → Int → xM → Prop) (hp1 : xIn p1) (hp2 : p2 = 0 ∨ p2 = 1) (hp3 : xIn p3) (hp4 : xIn p4)  (hJ45 : ∀ (c5 c6 : Int) (ν : xM), J45 c5 c6 ν → xW x (xRm 3, RX11, cX11_walk, 14, (some .int), fun _ _ => True) (xQi x Q) 45 [(0, .ref (x.2.2.1 + 260)), (2, iV p2), (3, iV p3), (4, iV p4), (5, iV c5), (6, iV c6)] [] ν) (hJ64 : ∀ (c5 c8 : Int) (ν : xM), J64 c5 c8 ν → xW x (xRm 3, RX11, cX11_walk, 14, (some .int), fun _ _ => True) (xQi x Q) 64 [(0, .ref (x.2.2.1 + 260)), (2, iV p2), (3, iV p3), (4, iV p4), (5, iV c5), (6, iV b6), (7, iV b7), (8, iV c8)] [] ν) (hJ87 : ∀ (c5 c10 : Int) (ν : xM), J87 c5 c10 ν → xW x (xRm 3, RX11, cX11_walk, 14, (some .int), fun _ _ => True) (xQi x Q) 87 [(0, .ref (x.2.2.1 + 260)), (2, iV p2), (3, iV p3), (4, iV p4), (5, iV c5), (6, iV b6), (7, iV b7), (8, iV b8), (9, iV b9), (10, iV c10)] [] ν) (h : tX11_walk_b193 p1 p2 p3 p4 b5 b6 b7 b8 b9 b10 b11 μ Q J45 J64 J87) : xW x (xRm 3, RX11, cX11_walk, 14, (some .int), fun _ _ => True) (xQi x Q) 193 [(0, .ref (x.2.2.1 + 260)), (2, iV p2), (3, iV p3), (4, iV p4), (5, iV b5), (6, iV b6), (7, iV b7), (8, iV b8), (9, iV b9), (10, iV b10), (11, iV b11)] [] μ := by
  refine x_ran (fun n0 => ?_)
  have h := h n0
  refine x_iload 6 rfl dX11_walk_193 ?_
  refine x_iload 7 rfl dX11_walk_195 ?_
  refine x_iload 9 rfl dX11_walk_197 ?_
  obtain ⟨c44, h⟩ := h
  obtain ⟨c45, h⟩ := h
  obtain ⟨c46, h⟩ := h
  refine x_callSi (As := [iV b7, iV b8, iV b10]) (rest := []) cal_X11_withWord sta_X11_withWord (xX11_withWord x b7 b8 b10 _ _ c44 c45 c46 h) rfl ml_X11_318 (xRoom (Nat.le_of_ble_eq_true rfl)) (Nat.le_of_ble_eq_true rfl) dX11_walk_199 (fun r49 μ47 i50 n48 h => ?_)
  have h := h i50 n48
  refine x_istore [(13, iV r49), (0, .ref (x.2.2.1 + 260)), (2, iV p2), (3, iV p3), (4, iV p4), (5, iV b5), (6, iV b6), (7, iV b7), (8, iV b8), (9, iV b9), (10, iV b10), (11, iV b11)] dX11_walk_202 (show 13 < 14 by decide) rfl ?_
  refine x_aload_n 1 rfl dX11_walk_204 ?_
  refine x_getR (j := 36) (r := 278) ly260 (by decide) rfl rfl (by decide) inT11 fl_X11_66 dX11_walk_205 ?_
  refine x_iload 0 rfl dX11_walk_208 ?_
  obtain ⟨c51, h⟩ := h
  refine x_iald ly278 c51.1 c51.2 i50 (by decide) dX11_walk_210 (fun r52 => ?_)
  refine x_ifge (tgt := 273) r52  dX11_walk_211 (by decide) (fun k53 => ?_) (fun k53 => ?_)
  · have h := h.1 k53
    refine x_iinc 10 rfl [(10, iV (b10 + 1)), (13, iV r49), (0, .ref (x.2.2.1 + 260)), (2, iV p2), (3, iV p3), (4, iV p4), (5, iV b5), (6, iV b6), (7, iV b7), (8, iV b8), (9, iV b9), (11, iV b11)] dX11_walk_273 (show 10 < 14 by decide) rfl ?_
    refine x_goto (tgt := 87) dX11_walk_276 (by decide) ?_
    exact x_sub [2, 3, 4, 5, 6, 7, 8, 9, 10, 0] rfl (hJ87 _ _ _ h)
  · have h := h.2 k53
    refine x_iload_n 3 rfl dX11_walk_214 ?_
    refine x_aload_n 1 rfl dX11_walk_215 ?_
    refine x_iload 0 rfl dX11_walk_216 ?_
    refine x_callVi (As := [iV r49]) (rest := [iV p3]) cal_X11_lettersAt ins_X11_lettersAt sel_X11_lettersAt ly260 (by decide) rfl (xX11_lettersAt x r49 _ _ i50 h) rfl ml_X11_343 (xRoom (Nat.le_of_ble_eq_true rfl)) (Nat.le_of_ble_eq_true rfl) dX11_walk_218 (fun r56 μ54 i57 n55 h => ?_)
    have h := h i57 n55
    refine x_isub dX11_walk_221 ?_
    refine x_iload 4 rfl dX11_walk_222 ?_
    obtain ⟨c58, h⟩ := h
    refine x_icmpgt (tgt := 273) c58 hp4 dX11_walk_224 (by decide) (fun k59 => ?_) (fun k59 => ?_)
    · have h := h.1 k59
      refine x_iinc 10 rfl [(10, iV (b10 + 1)), (13, iV r49), (0, .ref (x.2.2.1 + 260)), (2, iV p2), (3, iV p3), (4, iV p4), (5, iV b5), (6, iV b6), (7, iV b7), (8, iV b8), (9, iV b9), (11, iV b11)] dX11_walk_273 (show 10 < 14 by decide) rfl ?_
      refine x_goto (tgt := 87) dX11_walk_276 (by decide) ?_
      exact x_sub [2, 3, 4, 5, 6, 7, 8, 9, 10, 0] rfl (hJ87 _ _ _ h)
    · have h := h.2 k59
      refine x_iload 11 rfl dX11_walk_227 ?_
      obtain ⟨c60, h⟩ := h
      refine x_ifeq (tgt := 245) c60  dX11_walk_229 (by decide) (fun k61 => ?_) (fun k61 => ?_)
      · have h := h.1 k61
        exact x_sub [1, 2, 3, 4, 5, 6, 7, 8, 9, 10, 0] rfl (xX11_walk_b245 x p1 p2 p3 p4 b5 b6 b7 b8 b9 b10 r49 μ54 Q J45 J64 J87 hp1 hp2 hp3 hp4 hJ45 hJ64 hJ87 h)
      · have h := h.2 k61
        refine x_aload_n 1 rfl dX11_walk_232 ?_
        refine x_iload 0 rfl dX11_walk_233 ?_
        refine x_iload_n 3 rfl dX11_walk_235 ?_
        refine x_callVz (As := [iV r49, iV p3]) (rest := []) cal_X11_areThere ins_X11_areThere sel_X11_areThere ly260 (by decide) rfl (xX11_areThere x r49 p3 _ _ i50 hp3 h) rfl ml_X11_346 (xRoom (Nat.le_of_ble_eq_true rfl)) (Nat.le_of_ble_eq_true rfl) dX11_walk_236 (fun r76 μ74 i77 n75 h => ?_)
        have h := h i77 n75
        refine x_ifne (tgt := 245) (xIz i77)  dX11_walk_239 (by decide) (fun k78 => ?_) (fun k78 => ?_)
        · have h := h.1 (xz1 i77 k78)
          exact x_sub [1, 2, 3, 4, 5, 6, 7, 8, 9, 10, 0] rfl (xX11_walk_b245 x p1 p2 p3 p4 b5 b6 b7 b8 b9 b10 r49 μ74 Q J45 J64 J87 hp1 hp2 hp3 hp4 hJ45 hJ64 hJ87 h)
        · have h := h.2 k78
          refine x_goto (tgt := 273) dX11_walk_242 (by decide) ?_
          refine x_iinc 10 rfl [(10, iV (b10 + 1)), (13, iV r49), (0, .ref (x.2.2.1 + 260)), (2, iV p2), (3, iV p3), (4, iV p4), (5, iV b5), (6, iV b6), (7, iV b7), (8, iV b8), (9, iV b9), (11, iV b11)] dX11_walk_273 (show 10 < 14 by decide) rfl ?_
          refine x_goto (tgt := 87) dX11_walk_276 (by decide) ?_
          exact x_sub [2, 3, 4, 5, 6, 7, 8, 9, 10, 0] rfl (hJ87 _ _ _ h)
set_option maxRecDepth 100000 in
set_option maxHeartbeats 4000000 in
theorem xX11_walk_b178 (x : xX) (p1 : Int) (p2 : Int) (p3 : Int) (p4 : Int) (b5 : Int) (b6 : Int) (b7 : Int) (b8 : Int) (b9 : Int) (b10 : Int) (b11 : Int) (s0 : Int) (μ : xM) (Q : Int → xM → Prop) (J45 : Int → Int → xM → Prop) (J64 : Int → Int → xM → Prop) (J87 : Int → Int → xM → Prop) (hp1 : xIn p1) (hp2 : p2 = 0 ∨ p2 = 1) (hp3 : xIn p3) (hp4 : xIn p4)  (hJ45 : ∀ (c5 c6 : Int) (ν : xM), J45 c5 c6 ν → xW x (xRm 3, RX11, cX11_walk, 14, (some .int), fun _ _ => True) (xQi x Q) 45 [(0, .ref (x.2.2.1 + 260)), (2, iV p2), (3, iV p3), (4, iV p4), (5, iV c5), (6, iV c6)] [] ν) (hJ64 : ∀ (c5 c8 : Int) (ν : xM), J64 c5 c8 ν → xW x (xRm 3, RX11, cX11_walk, 14, (some .int), fun _ _ => True) (xQi x Q) 64 [(0, .ref (x.2.2.1 + 260)), (2, iV p2), (3, iV p3), (4, iV p4), (5, iV c5), (6, iV b6), (7, iV b7), (8, iV c8)] [] ν) (hJ87 : ∀ (c5 c10 : Int) (ν : xM), J87 c5 c10 ν → xW x (xRm 3, RX11, cX11_walk, 14, (some .int), fun _ _ => True) (xQi x Q) 87 [(0, .ref (x.2.2.1 + 260)), (2, iV p2), (3, iV p3), (4, iV p4), (5, iV c5), (6, iV b6), (7, iV b7), (8, iV b8), (9, iV b9), (10, iV c10)] [] ν) (h : tX11_walk_b178 p1 p2 p3 p4 b5 b6 b7 b8 b9 b10 b11 s0 μ Q J45 J64 J87) : xW x (xRm 3, RX11, cX11_walk, 14, (some .int), fun _ _ => True) (xQi x Q) 178 [(0, .ref (x.2.2.1 + 260)), (2, iV p2), (3, iV p3), (4, iV p4), (5, iV b5), (6, iV b6), (7, iV b7), (8, iV b8), (9, iV b9), (10, iV b10), (11, iV b11)] [iV s0] μ := by
  refine x_ran (fun n0 => ?_)
  have h := h n0
  refine x_istore [(12, iV s0), (0, .ref (x.2.2.1 + 260)), (2, iV p2), (3, iV p3), (4, iV p4), (5, iV b5), (6, iV b6), (7, iV b7), (8, iV b8), (9, iV b9), (10, iV b10), (11, iV b11)] dX11_walk_178 (show 12 < 14 by decide) rfl ?_
  refine x_iload 11 rfl dX11_walk_180 ?_
  obtain ⟨c42, h⟩ := h
  refine x_ifne (tgt := 193) c42  dX11_walk_182 (by decide) (fun k43 => ?_) (fun k43 => ?_)
  · have h := h.1 k43
    exact x_sub [1, 2, 3, 4, 5, 6, 7, 8, 9, 10, 11] rfl (xX11_walk_b193 x p1 p2 p3 p4 b5 b6 b7 b8 b9 b10 b11 μ Q J45 J64 J87 hp1 hp2 hp3 hp4 hJ45 hJ64 hJ87 h)
  · have h := h.2 k43
    refine x_iload 0 rfl dX11_walk_185 ?_
    obtain ⟨c79, h⟩ := h
    refine x_ifne (tgt := 193) c79  dX11_walk_187 (by decide) (fun k80 => ?_) (fun k80 => ?_)
    · have h := h.1 k80
      exact x_sub [1, 2, 3, 4, 5, 6, 7, 8, 9, 10, 11] rfl (xX11_walk_b193 x p1 p2 p3 p4 b5 b6 b7 b8 b9 b10 b11 μ Q J45 J64 J87 hp1 hp2 hp3 hp4 hJ45 hJ64 hJ87 h)
    · have h := h.2 k80
      refine x_goto (tgt := 273) dX11_walk_190 (by decide) ?_
      refine x_iinc 10 rfl [(10, iV (b10 + 1)), (12, iV s0), (0, .ref (x.2.2.1 + 260)), (2, iV p2), (3, iV p3), (4, iV p4), (5, iV b5), (6, iV b6), (7, iV b7), (8, iV b8), (9, iV b9), (11, iV b11)] dX11_walk_273 (show 10 < 14 by decide) rfl ?_
      refine x_goto (tgt := 87) dX11_walk_276 (by decide) ?_
      exact x_sub [2, 3, 4, 5, 6, 7, 8, 9, 10, 0] rfl (hJ87 _ _ _ h)
set_option maxRecDepth 100000 in
set_option maxHeartbeats 4000000 in
theorem xX11_walk_b177 (x : xX) (p1 : Int) (p2 : Int) (p3 : Int) (p4 : Int) (b5 : Int) (b6 : Int) (b7 : Int) (b8 : Int) (b9 : Int) (b10 : Int) (b11 : Int) (μ : xM) (Q : Int → xM → Prop) (J45 : Int → Int → xM → Prop) (J64 : Int → Int → xM → Prop) (J87 : Int → Int → xM → Prop) (hp1 : xIn p1) (hp2 : p2 = 0 ∨ p2 = 1) (hp3 : xIn p3) (hp4 : xIn p4)  (hJ45 : ∀ (c5 c6 : Int) (ν : xM), J45 c5 c6 ν → xW x (xRm 3, RX11, cX11_walk, 14, (some .int), fun _ _ => True) (xQi x Q) 45 [(0, .ref (x.2.2.1 + 260)), (2, iV p2), (3, iV p3), (4, iV p4), (5, iV c5), (6, iV c6)] [] ν) (hJ64 : ∀ (c5 c8 : Int) (ν : xM), J64 c5 c8 ν → xW x (xRm 3, RX11, cX11_walk, 14, (some .int), fun _ _ => True) (xQi x Q) 64 [(0, .ref (x.2.2.1 + 260)), (2, iV p2), (3, iV p3), (4, iV p4), (5, iV c5), (6, iV b6), (7, iV b7), (8, iV c8)] [] ν) (hJ87 : ∀ (c5 c10 : Int) (ν : xM), J87 c5 c10 ν → xW x (xRm 3, RX11, cX11_walk, 14, (some .int), fun _ _ => True) (xQi x Q) 87 [(0, .ref (x.2.2.1 + 260)), (2, iV p2), (3, iV p3), (4, iV p4), (5, iV c5), (6, iV b6), (7, iV b7), (8, iV b8), (9, iV b9), (10, iV c10)] [] ν) (h : tX11_walk_b177 p1 p2 p3 p4 b5 b6 b7 b8 b9 b10 b11 μ Q J45 J64 J87) : xW x (xRm 3, RX11, cX11_walk, 14, (some .int), fun _ _ => True) (xQi x Q) 177 [(0, .ref (x.2.2.1 + 260)), (2, iV p2), (3, iV p3), (4, iV p4), (5, iV b5), (6, iV b6), (7, iV b7), (8, iV b8), (9, iV b9), (10, iV b10), (11, iV b11)] [] μ := by
  refine x_ran (fun n0 => ?_)
  have h := h n0
  refine x_iconst dX11_walk_177 ?_
  exact x_sub [0, 1, 2, 3, 4, 5, 6, 7, 8, 9, 10] rfl (xX11_walk_b178 x p1 p2 p3 p4 b5 b6 b7 b8 b9 b10 b11 0 μ Q J45 J64 J87 hp1 hp2 hp3 hp4 hJ45 hJ64 hJ87 h)
set_option maxRecDepth 100000 in
set_option maxHeartbeats 4000000 in
theorem xX11_walk_b157 (x : xX) (p1 : Int) (p2 : Int) (p3 : Int) (p4 : Int) (b5 : Int) (b6 : Int) (b7 : Int) (b8 : Int) (b9 : Int) (b10 : Int) (b11 : Int) (μ : xM) (Q : Int → xM → Prop) (J45 : Int → Int → xM → Prop) (J64 : Int → Int → xM → Prop) (J87 : Int → Int → xM → Prop) (hp1 : xIn p1) (hp2 : p2 = 0 ∨ p2 = 1) (hp3 : xIn p3) (hp4 : xIn p4)  (hJ45 : ∀ (c5 c6 : Int) (ν : xM), J45 c5 c6 ν → xW x (xRm 3, RX11, cX11_walk, 14, (some .int), fun _ _ => True) (xQi x Q) 45 [(0, .ref (x.2.2.1 + 260)), (2, iV p2), (3, iV p3), (4, iV p4), (5, iV c5), (6, iV c6)] [] ν) (hJ64 : ∀ (c5 c8 : Int) (ν : xM), J64 c5 c8 ν → xW x (xRm 3, RX11, cX11_walk, 14, (some .int), fun _ _ => True) (xQi x Q) 64 [(0, .ref (x.2.2.1 + 260)), (2, iV p2), (3, iV p3), (4, iV p4), (5, iV c5), (6, iV b6), (7, iV b7), (8, iV c8)] [] ν) (hJ87 : ∀ (c5 c10 : Int) (ν : xM), J87 c5 c10 ν → xW x (xRm 3, RX11, cX11_walk, 14, (some .int), fun _ _ => True) (xQi x Q) 87 [(0, .ref (x.2.2.1 + 260)), (2, iV p2), (3, iV p3), (4, iV p4), (5, iV c5), (6, iV b6), (7, iV b7), (8, iV b8), (9, iV b9), (10, iV c10)] [] ν) (h : tX11_walk_b157 p1 p2 p3 p4 b5 b6 b7 b8 b9 b10 b11 μ Q J45 J64 J87) : xW x (xRm 3, RX11, cX11_walk, 14, (some .int), fun _ _ => True) (xQi x Q) 157 [(0, .ref (x.2.2.1 + 260)), (2, iV p2), (3, iV p3), (4, iV p4), (5, iV b5), (6, iV b6), (7, iV b7), (8, iV b8), (9, iV b9), (10, iV b10), (11, iV b11)] [] μ := by
  refine x_ran (fun n0 => ?_)
  have h := h n0
  refine x_aload_n 0 rfl dX11_walk_157 ?_
  refine x_getR (j := 20) (r := 267) ly260 (by decide) rfl rfl (by decide) inT11 fl_X11_32 dX11_walk_158 ?_
  refine x_bipush dX11_walk_161 (by decide) ?_
  refine x_iload 9 rfl dX11_walk_163 ?_
  refine x_imul dX11_walk_165 ?_
  refine x_iload 8 rfl dX11_walk_166 ?_
  refine x_iadd dX11_walk_168 ?_
  obtain ⟨c85, h⟩ := h
  refine x_iald ly267 c85.1 c85.2 (xIb (n := 600) c85 (by decide)) (by decide) dX11_walk_169 (fun r86 => ?_)
  refine x_iflt (tgt := 177) r86  dX11_walk_170 (by decide) (fun k87 => ?_) (fun k87 => ?_)
  · have h := h.1 k87
    exact x_sub [0, 1, 2, 3, 4, 5, 6, 7, 8, 9, 10] rfl (xX11_walk_b177 x p1 p2 p3 p4 b5 b6 b7 b8 b9 b10 b11 μ Q J45 J64 J87 hp1 hp2 hp3 hp4 hJ45 hJ64 hJ87 h)
  · have h := h.2 k87
    refine x_iconst dX11_walk_173 ?_
    refine x_goto (tgt := 178) dX11_walk_174 (by decide) ?_
    exact x_sub [0, 1, 2, 3, 4, 5, 6, 7, 8, 9, 10] rfl (xX11_walk_b178 x p1 p2 p3 p4 b5 b6 b7 b8 b9 b10 b11 1 μ Q J45 J64 J87 hp1 hp2 hp3 hp4 hJ45 hJ64 hJ87 h)
set_option maxRecDepth 100000 in
set_option maxHeartbeats 4000000 in
theorem xX11_walk_b126 (x : xX) (p1 : Int) (p2 : Int) (p3 : Int) (p4 : Int) (b5 : Int) (b6 : Int) (b7 : Int) (b8 : Int) (b9 : Int) (b10 : Int) (s0 : Int) (μ : xM) (Q : Int → xM → Prop) (J45 : Int → Int → xM → Prop) (J64 : Int → Int → xM → Prop) (J87 : Int → Int → xM → Prop) (hp1 : xIn p1) (hp2 : p2 = 0 ∨ p2 = 1) (hp3 : xIn p3) (hp4 : xIn p4)  (hJ45 : ∀ (c5 c6 : Int) (ν : xM), J45 c5 c6 ν → xW x (xRm 3, RX11, cX11_walk, 14, (some .int), fun _ _ => True) (xQi x Q) 45 [(0, .ref (x.2.2.1 + 260)), (2, iV p2), (3, iV p3), (4, iV p4), (5, iV c5), (6, iV c6)] [] ν) (hJ64 : ∀ (c5 c8 : Int) (ν : xM), J64 c5 c8 ν → xW x (xRm 3, RX11, cX11_walk, 14, (some .int), fun _ _ => True) (xQi x Q) 64 [(0, .ref (x.2.2.1 + 260)), (2, iV p2), (3, iV p3), (4, iV p4), (5, iV c5), (6, iV b6), (7, iV b7), (8, iV c8)] [] ν) (hJ87 : ∀ (c5 c10 : Int) (ν : xM), J87 c5 c10 ν → xW x (xRm 3, RX11, cX11_walk, 14, (some .int), fun _ _ => True) (xQi x Q) 87 [(0, .ref (x.2.2.1 + 260)), (2, iV p2), (3, iV p3), (4, iV p4), (5, iV c5), (6, iV b6), (7, iV b7), (8, iV b8), (9, iV b9), (10, iV c10)] [] ν) (h : tX11_walk_b126 p1 p2 p3 p4 b5 b6 b7 b8 b9 b10 s0 μ Q J45 J64 J87) : xW x (xRm 3, RX11, cX11_walk, 14, (some .int), fun _ _ => True) (xQi x Q) 126 [(0, .ref (x.2.2.1 + 260)), (2, iV p2), (3, iV p3), (4, iV p4), (5, iV b5), (6, iV b6), (7, iV b7), (8, iV b8), (9, iV b9), (10, iV b10)] [iV s0] μ := by
  refine x_ran (fun n0 => ?_)
  have h := h n0
  refine x_istore [(11, iV s0), (0, .ref (x.2.2.1 + 260)), (2, iV p2), (3, iV p3), (4, iV p4), (5, iV b5), (6, iV b6), (7, iV b7), (8, iV b8), (9, iV b9), (10, iV b10)] dX11_walk_126 (show 11 < 14 by decide) rfl ?_
  refine x_iload_n 2 rfl dX11_walk_128 ?_
  refine x_ifeq (tgt := 177) (xIz hp2)  dX11_walk_129 (by decide) (fun k41 => ?_) (fun k41 => ?_)
  · have h := h.1 k41
    exact x_sub [1, 2, 3, 4, 5, 6, 7, 8, 9, 10, 0] rfl (xX11_walk_b177 x p1 p2 p3 p4 b5 b6 b7 b8 b9 b10 s0 μ Q J45 J64 J87 hp1 hp2 hp3 hp4 hJ45 hJ64 hJ87 h)
  · have h := h.2 (xz1 hp2 k41)
    refine x_iload 9 rfl dX11_walk_132 ?_
    refine x_bipush dX11_walk_134 (by decide) ?_
    obtain ⟨c81, h⟩ := h
    refine x_icmpeq (tgt := 177) c81 ⟨by decide, by decide⟩ dX11_walk_136 (by decide) (fun k82 => ?_) (fun k82 => ?_)
    · have h := h.1 k82
      exact x_sub [1, 2, 3, 4, 5, 6, 7, 8, 9, 10, 0] rfl (xX11_walk_b177 x p1 p2 p3 p4 b5 b6 b7 b8 b9 b10 s0 μ Q J45 J64 J87 hp1 hp2 hp3 hp4 hJ45 hJ64 hJ87 h)
    · have h := h.2 k82
      refine x_iload 10 rfl dX11_walk_139 ?_
      refine x_bipush dX11_walk_141 (by decide) ?_
      obtain ⟨c83, h⟩ := h
      refine x_icmpeq (tgt := 157) c83 ⟨by decide, by decide⟩ dX11_walk_143 (by decide) (fun k84 => ?_) (fun k84 => ?_)
      · have h := h.1 k84
        exact x_sub [1, 2, 3, 4, 5, 6, 7, 8, 9, 10, 0] rfl (xX11_walk_b157 x p1 p2 p3 p4 b5 b6 b7 b8 b9 b10 s0 μ Q J45 J64 J87 hp1 hp2 hp3 hp4 hJ45 hJ64 hJ87 h)
      · have h := h.2 k84
        refine x_iload 10 rfl dX11_walk_146 ?_
        refine x_aload_n 1 rfl dX11_walk_148 ?_
        refine x_getR (j := 15) (r := 263) ly260 (by decide) rfl rfl (by decide) inT11 fl_X11_20 dX11_walk_149 ?_
        refine x_iconst dX11_walk_152 ?_
        refine x_iald ly263 (by decide) (by decide) ⟨by decide, by decide⟩ (by decide) dX11_walk_153 (fun r88 => ?_)
        refine x_icmpge (tgt := 177) c83 r88 dX11_walk_154 (by decide) (fun k89 => ?_) (fun k89 => ?_)
        · have h := h.1 k89
          exact x_sub [1, 2, 3, 4, 5, 6, 7, 8, 9, 10, 0] rfl (xX11_walk_b177 x p1 p2 p3 p4 b5 b6 b7 b8 b9 b10 s0 μ Q J45 J64 J87 hp1 hp2 hp3 hp4 hJ45 hJ64 hJ87 h)
        · have h := h.2 k89
          exact x_sub [1, 2, 3, 4, 5, 6, 7, 8, 9, 10, 0] rfl (xX11_walk_b157 x p1 p2 p3 p4 b5 b6 b7 b8 b9 b10 s0 μ Q J45 J64 J87 hp1 hp2 hp3 hp4 hJ45 hJ64 hJ87 h)
set_option maxRecDepth 100000 in
set_option maxHeartbeats 4000000 in
theorem xX11_walk_b125 (x : xX) (p1 : Int) (p2 : Int) (p3 : Int) (p4 : Int) (b5 : Int) (b6 : Int) (b7 : Int) (b8 : Int) (b9 : Int) (b10 : Int) (μ : xM) (Q : Int → xM → Prop) (J45 : Int → Int → xM → Prop) (J64 : Int → Int → xM → Prop) (J87 : Int → Int → xM → Prop) (hp1 : xIn p1) (hp2 : p2 = 0 ∨ p2 = 1) (hp3 : xIn p3) (hp4 : xIn p4)  (hJ45 : ∀ (c5 c6 : Int) (ν : xM), J45 c5 c6 ν → xW x (xRm 3, RX11, cX11_walk, 14, (some .int), fun _ _ => True) (xQi x Q) 45 [(0, .ref (x.2.2.1 + 260)), (2, iV p2), (3, iV p3), (4, iV p4), (5, iV c5), (6, iV c6)] [] ν) (hJ64 : ∀ (c5 c8 : Int) (ν : xM), J64 c5 c8 ν → xW x (xRm 3, RX11, cX11_walk, 14, (some .int), fun _ _ => True) (xQi x Q) 64 [(0, .ref (x.2.2.1 + 260)), (2, iV p2), (3, iV p3), (4, iV p4), (5, iV c5), (6, iV b6), (7, iV b7), (8, iV c8)] [] ν) (hJ87 : ∀ (c5 c10 : Int) (ν : xM), J87 c5 c10 ν → xW x (xRm 3, RX11, cX11_walk, 14, (some .int), fun _ _ => True) (xQi x Q) 87 [(0, .ref (x.2.2.1 + 260)), (2, iV p2), (3, iV p3), (4, iV p4), (5, iV c5), (6, iV b6), (7, iV b7), (8, iV b8), (9, iV b9), (10, iV c10)] [] ν) (h : tX11_walk_b125 p1 p2 p3 p4 b5 b6 b7 b8 b9 b10 μ Q J45 J64 J87) : xW x (xRm 3, RX11, cX11_walk, 14, (some .int), fun _ _ => True) (xQi x Q) 125 [(0, .ref (x.2.2.1 + 260)), (2, iV p2), (3, iV p3), (4, iV p4), (5, iV b5), (6, iV b6), (7, iV b7), (8, iV b8), (9, iV b9), (10, iV b10)] [] μ := by
  refine x_ran (fun n0 => ?_)
  have h := h n0
  refine x_iconst dX11_walk_125 ?_
  exact x_sub [0, 1, 2, 3, 4, 5, 6, 7, 8, 9] rfl (xX11_walk_b126 x p1 p2 p3 p4 b5 b6 b7 b8 b9 b10 0 μ Q J45 J64 J87 hp1 hp2 hp3 hp4 hJ45 hJ64 hJ87 h)
set_option maxRecDepth 100000 in
set_option maxHeartbeats 4000000 in
theorem xX11_walk (x : xX) (p1 : Int) (p2 : Int) (p3 : Int) (p4 : Int) (μ : xM) (Q : Int → xM → Prop) (hp1 : xIn p1) (hp2 : p2 = 0 ∨ p2 = 1) (hp3 : xIn p3) (hp4 : xIn p4) (h : tX11_walk p1 p2 p3 p4 μ Q) : xMet x 3 yX11_walk cX11_walk 14 (some .int) [.ref (x.2.2.1 + 260), iV p1, iV p2, iV p3, iV p4] μ (xQi x Q) := by
  refine xMet_of (by decide +kernel) (Nat.le_of_ble_eq_true rfl) ?_
  show xW x (xRm 3, RX11, cX11_walk, 14, (some .int), fun _ _ => True) (xQi x Q) 0 [(0, .ref (x.2.2.1 + 260)), (1, iV p1), (2, iV p2), (3, iV p3), (4, iV p4)] [] μ
  refine x_ran (fun n0 => ?_)
  have h := h n0 hp1 hp2 hp3 hp4
  refine x_iconst dX11_walk_0 ?_
  refine x_istore [(5, iV 0), (0, .ref (x.2.2.1 + 260)), (1, iV p1), (2, iV p2), (3, iV p3), (4, iV p4)] dX11_walk_1 (show 5 < 14 by decide) rfl ?_
  refine x_sub [1, 2, 3, 4, 5, 0] rfl ?_
  refine x_loop1 (fun l5_1 => [(0, .ref (x.2.2.1 + 260)), (1, iV p1), (2, iV p2), (3, iV p3), (4, iV p4), (5, iV l5_1)]) h (fun J3 l5_1 μ2 hJ3 h n3 => ?_)
  refine x_iload 5 rfl dX11_walk_3 ?_
  refine x_sipush dX11_walk_5 (by decide) ?_
  obtain ⟨c4, h⟩ := h
  refine x_icmpge (tgt := 25) c4 ⟨by decide, by decide⟩ dX11_walk_8 (by decide) (fun k5 => ?_) (fun k5 => ?_)
  · have h := h.1 k5
    refine x_aload_n 0 rfl dX11_walk_25 ?_
    refine x_getR (j := 36) (r := 278) ly260 (by decide) rfl rfl (by decide) inT11 fl_X11_66 dX11_walk_26 ?_
    refine x_iload_n 1 rfl dX11_walk_29 ?_
    refine x_iconst dX11_walk_30 ?_
    obtain ⟨c6, h⟩ := h
    refine x_iast ly278 c6.1 c6.2 hp1 ⟨by decide, by decide⟩ (by decide) dX11_walk_31 (fun μ7 e9 n8 => ?_)
    have h := h μ7 e9 n8
    refine x_aload_n 0 rfl dX11_walk_32 ?_
    refine x_getR (j := 35) (r := 277) ly260 (by decide) rfl rfl (by decide) inT11 fl_X11_63 dX11_walk_33 ?_
    refine x_iconst dX11_walk_36 ?_
    refine x_iload_n 1 rfl dX11_walk_37 ?_
    refine x_iast ly277 (by decide) (by decide) ⟨by decide, by decide⟩ hp1 (by decide) dX11_walk_38 (fun μ10 e12 n11 => ?_)
    have h := h μ10 e12 n11
    refine x_iconst dX11_walk_39 ?_
    refine x_istore [(5, iV 1), (0, .ref (x.2.2.1 + 260)), (1, iV p1), (2, iV p2), (3, iV p3), (4, iV p4)] dX11_walk_40 (show 5 < 14 by decide) rfl ?_
    refine x_iconst dX11_walk_42 ?_
    refine x_istore [(6, iV 0), (5, iV 1), (0, .ref (x.2.2.1 + 260)), (1, iV p1), (2, iV p2), (3, iV p3), (4, iV p4)] dX11_walk_43 (show 6 < 14 by decide) rfl ?_
    refine x_sub [2, 4, 5, 6, 1, 0] rfl ?_
    refine x_loop2 (fun l5_13 l6_14 => [(0, .ref (x.2.2.1 + 260)), (2, iV p2), (3, iV p3), (4, iV p4), (5, iV l5_13), (6, iV l6_14)]) h (fun J45 l5_13 l6_14 μ15 hJ45 h n16 => ?_)
    refine x_iload 5 rfl dX11_walk_45 ?_
    refine x_iload 4 rfl dX11_walk_47 ?_
    obtain ⟨c17, h⟩ := h
    obtain ⟨c18, h⟩ := h
    refine x_icmpge (tgt := 291) c17 c18 dX11_walk_49 (by decide) (fun k19 => ?_) (fun k19 => ?_)
    · have h := h.1 k19
      refine x_iload 4 rfl dX11_walk_291 ?_
      exact x_iret h c18 rfl dX11_walk_293
    · have h := h.2 k19
      refine x_aload_n 0 rfl dX11_walk_52 ?_
      refine x_getR (j := 35) (r := 277) ly260 (by decide) rfl rfl (by decide) inT11 fl_X11_63 dX11_walk_53 ?_
      refine x_iload 5 rfl dX11_walk_56 ?_
      obtain ⟨c20, h⟩ := h
      refine x_iald ly277 c20.1 c20.2 (xIb (n := 15625) c20 (by decide)) (by decide) dX11_walk_58 (fun r21 => ?_)
      refine x_istore [(7, iV (μ15 277 l6_14.toNat)), (0, .ref (x.2.2.1 + 260)), (2, iV p2), (3, iV p3), (4, iV p4), (5, iV l5_13), (6, iV l6_14)] dX11_walk_59 (show 7 < 14 by decide) rfl ?_
      refine x_iconst dX11_walk_61 ?_
      refine x_istore [(8, iV 0), (7, iV (μ15 277 l6_14.toNat)), (0, .ref (x.2.2.1 + 260)), (2, iV p2), (3, iV p3), (4, iV p4), (5, iV l5_13), (6, iV l6_14)] dX11_walk_62 (show 8 < 14 by decide) rfl ?_
      refine x_sub [2, 3, 4, 5, 6, 7, 1, 0] rfl ?_
      refine x_loop2 (fun l5_22 l8_23 => [(0, .ref (x.2.2.1 + 260)), (2, iV p2), (3, iV p3), (4, iV p4), (5, iV l5_22), (6, iV l6_14), (7, iV (μ15 277 l6_14.toNat)), (8, iV l8_23)]) h (fun J64 l5_22 l8_23 μ24 hJ64 h n25 => ?_)
      refine x_iload 7 rfl dX11_walk_64 ?_
      refine x_aload_n 0 rfl dX11_walk_66 ?_
      refine x_getR (j := 15) (r := 263) ly260 (by decide) rfl rfl (by decide) inT11 fl_X11_20 dX11_walk_67 ?_
      refine x_iconst dX11_walk_70 ?_
      refine x_iald ly263 (by decide) (by decide) ⟨by decide, by decide⟩ (by decide) dX11_walk_71 (fun r26 => ?_)
      obtain ⟨c27, h⟩ := h
      refine x_icmpge (tgt := 285) c27 r26 dX11_walk_72 (by decide) (fun k28 => ?_) (fun k28 => ?_)
      · have h := h.1 k28
        refine x_iinc 5 rfl [(6, iV (l6_14 + 1)), (0, .ref (x.2.2.1 + 260)), (2, iV p2), (3, iV p3), (4, iV p4), (5, iV l5_22), (7, iV (μ15 277 l6_14.toNat)), (8, iV l8_23)] dX11_walk_285 (show 6 < 14 by decide) rfl ?_
        refine x_goto (tgt := 45) dX11_walk_288 (by decide) ?_
        exact x_sub [1, 2, 3, 4, 5, 0] rfl (hJ45 _ _ _ h)
      · have h := h.2 k28
        refine x_iload 6 rfl dX11_walk_75 ?_
        refine x_iload 7 rfl dX11_walk_77 ?_
        refine x_callSi (As := [iV (μ15 277 l6_14.toNat), iV l8_23]) (rest := []) cal_X11_wordOf sta_X11_wordOf (xX11_wordOf x (μ15 277 l6_14.toNat) l8_23 _ _ r21 c27 h) rfl ml_X11_315 (xRoom (Nat.le_of_ble_eq_true rfl)) (Nat.le_of_ble_eq_true rfl) dX11_walk_79 (fun r31 μ29 i32 n30 h => ?_)
        have h := h i32 n30
        refine x_istore [(9, iV r31), (0, .ref (x.2.2.1 + 260)), (2, iV p2), (3, iV p3), (4, iV p4), (5, iV l5_22), (6, iV l6_14), (7, iV (μ15 277 l6_14.toNat)), (8, iV l8_23)] dX11_walk_82 (show 9 < 14 by decide) rfl ?_
        refine x_iconst dX11_walk_84 ?_
        refine x_istore [(10, iV 0), (9, iV r31), (0, .ref (x.2.2.1 + 260)), (2, iV p2), (3, iV p3), (4, iV p4), (5, iV l5_22), (6, iV l6_14), (7, iV (μ15 277 l6_14.toNat)), (8, iV l8_23)] dX11_walk_85 (show 10 < 14 by decide) rfl ?_
        refine x_sub [2, 3, 4, 5, 6, 7, 8, 9, 1, 0] rfl ?_
        refine x_loop2 (fun l5_33 l10_34 => [(0, .ref (x.2.2.1 + 260)), (2, iV p2), (3, iV p3), (4, iV p4), (5, iV l5_33), (6, iV l6_14), (7, iV (μ15 277 l6_14.toNat)), (8, iV l8_23), (9, iV r31), (10, iV l10_34)]) h (fun J87 l5_33 l10_34 μ35 hJ87 h n36 => ?_)
        refine x_iload 9 rfl dX11_walk_87 ?_
        refine x_bipush dX11_walk_89 (by decide) ?_
        obtain ⟨c37, h⟩ := h
        refine x_icmpgt (tgt := 279) c37 ⟨by decide, by decide⟩ dX11_walk_91 (by decide) (fun k38 => ?_) (fun k38 => ?_)
        · have h := h.1 k38
          refine x_iinc 7 rfl [(8, iV (l8_23 + 1)), (0, .ref (x.2.2.1 + 260)), (2, iV p2), (3, iV p3), (4, iV p4), (5, iV l5_33), (6, iV l6_14), (7, iV (μ15 277 l6_14.toNat)), (9, iV r31), (10, iV l10_34)] dX11_walk_279 (show 8 < 14 by decide) rfl ?_
          refine x_goto (tgt := 64) dX11_walk_282 (by decide) ?_
          exact x_sub [1, 2, 3, 4, 5, 6, 7, 0] rfl (hJ64 _ _ _ h)
        · have h := h.2 k38
          refine x_iload 9 rfl dX11_walk_94 ?_
          refine x_aload_n 0 rfl dX11_walk_96 ?_
          refine x_getR (j := 15) (r := 263) ly260 (by decide) rfl rfl (by decide) inT11 fl_X11_20 dX11_walk_97 ?_
          refine x_iconst dX11_walk_100 ?_
          refine x_iald ly263 (by decide) (by decide) ⟨by decide, by decide⟩ (by decide) dX11_walk_101 (fun r39 => ?_)
          refine x_icmpge (tgt := 125) c37 r39 dX11_walk_102 (by decide) (fun k40 => ?_) (fun k40 => ?_)
          · have h := h.1 k40
            exact x_sub [0, 1, 2, 3, 4, 5, 6, 7, 8, 9] rfl (xX11_walk_b125 x p1 p2 p3 p4 l5_33 l6_14 (μ15 277 l6_14.toNat) l8_23 r31 l10_34 μ35 Q J45 J64 J87 hp1 hp2 hp3 hp4 hJ45 hJ64 hJ87 h)
          · have h := h.2 k40
            refine x_aload_n 0 rfl dX11_walk_105 ?_
            refine x_getR (j := 20) (r := 267) ly260 (by decide) rfl rfl (by decide) inT11 fl_X11_32 dX11_walk_106 ?_
            refine x_bipush dX11_walk_109 (by decide) ?_
            refine x_iload 8 rfl dX11_walk_111 ?_
            refine x_imul dX11_walk_113 ?_
            refine x_iload 9 rfl dX11_walk_114 ?_
            refine x_iadd dX11_walk_116 ?_
            obtain ⟨c90, h⟩ := h
            refine x_iald ly267 c90.1 c90.2 (xIb (n := 600) c90 (by decide)) (by decide) dX11_walk_117 (fun r91 => ?_)
            refine x_iflt (tgt := 125) r91  dX11_walk_118 (by decide) (fun k92 => ?_) (fun k92 => ?_)
            · have h := h.1 k92
              exact x_sub [0, 1, 2, 3, 4, 5, 6, 7, 8, 9] rfl (xX11_walk_b125 x p1 p2 p3 p4 l5_33 l6_14 (μ15 277 l6_14.toNat) l8_23 r31 l10_34 μ35 Q J45 J64 J87 hp1 hp2 hp3 hp4 hJ45 hJ64 hJ87 h)
            · have h := h.2 k92
              refine x_iconst dX11_walk_121 ?_
              refine x_goto (tgt := 126) dX11_walk_122 (by decide) ?_
              exact x_sub [0, 1, 2, 3, 4, 5, 6, 7, 8, 9] rfl (xX11_walk_b126 x p1 p2 p3 p4 l5_33 l6_14 (μ15 277 l6_14.toNat) l8_23 r31 l10_34 1 μ35 Q J45 J64 J87 hp1 hp2 hp3 hp4 hJ45 hJ64 hJ87 h)
  · have h := h.2 k5
    refine x_aload_n 0 rfl dX11_walk_11 ?_
    refine x_getR (j := 36) (r := 278) ly260 (by decide) rfl rfl (by decide) inT11 fl_X11_66 dX11_walk_12 ?_
    refine x_iload 5 rfl dX11_walk_15 ?_
    refine x_iconst dX11_walk_17 ?_
    obtain ⟨c93, h⟩ := h
    refine x_iast ly278 c93.1 c93.2 (xIb (n := 15625) c93 (by decide)) ⟨by decide, by decide⟩ (by decide) dX11_walk_18 (fun μ94 e96 n95 => ?_)
    have h := h μ94 e96 n95
    refine x_iinc 5 rfl [(5, iV (l5_1 + 1)), (0, .ref (x.2.2.1 + 260)), (1, iV p1), (2, iV p2), (3, iV p3), (4, iV p4)] dX11_walk_19 (show 5 < 14 by decide) rfl ?_
    refine x_goto (tgt := 3) dX11_walk_22 (by decide) ?_
    exact x_sub [1, 2, 3, 4, 5, 0] rfl (hJ3 _ _ h)
set_option maxRecDepth 100000 in
set_option maxHeartbeats 4000000 in
theorem xX11_ever (x : xX)  (μ : xM) (Q : Int → xM → Prop)  (h : tX11_ever  μ Q) : xMet x 4 yX11_ever cX11_ever 4 (some .int) [.ref (x.2.2.1 + 260)] μ (xQi x Q) := by
  refine xMet_of (by decide +kernel) (Nat.le_of_ble_eq_true rfl) ?_
  show xW x (xRm 4, RX11, cX11_ever, 4, (some .int), fun _ _ => True) (xQi x Q) 0 [(0, .ref (x.2.2.1 + 260))] [] μ
  refine x_ran (fun n0 => ?_)
  have h := h n0 
  refine x_aload_n 0 rfl dX11_ever_0 ?_
  refine x_callVv (As := []) (rest := []) cal_X11_good ins_X11_good sel_X11_good ly260 (by decide) rfl (xX11_good x  _ _  h) rfl ml_X11_155 (xRoom (Nat.le_of_ble_eq_true rfl)) (Nat.le_of_ble_eq_true rfl) dX11_ever_1 (fun μ1 n2 h => ?_)
  have h := h n2
  refine x_aload_n 0 rfl dX11_ever_4 ?_
  refine x_getI (j := 14) ly260 (by decide) rfl rfl (by decide) inT11 fl_X11_164 dX11_ever_5 (fun r3 => ?_)
  refine x_ifne (tgt := 17) r3  dX11_ever_8 (by decide) (fun k4 => ?_) (fun k4 => ?_)
  · have h := h.1 k4
    refine x_aload_n 0 rfl dX11_ever_17 ?_
    refine x_callSi (As := []) (rest := [.ref (x.2.2.1 + 260)]) cal_X11_empty sta_X11_empty (xX11_empty x  _ _  h) rfl ml_X11_340 (xRoom (Nat.le_of_ble_eq_true rfl)) (Nat.le_of_ble_eq_true rfl) dX11_ever_18 (fun r7 μ5 i8 n6 h => ?_)
    have h := h i8 n6
    refine x_iconst dX11_ever_21 ?_
    refine x_aload_n 0 rfl dX11_ever_22 ?_
    refine x_getR (j := 15) (r := 263) ly260 (by decide) rfl rfl (by decide) inT11 fl_X11_20 dX11_ever_23 ?_
    refine x_iconst dX11_ever_26 ?_
    refine x_iald ly263 (by decide) (by decide) ⟨by decide, by decide⟩ (by decide) dX11_ever_27 (fun r9 => ?_)
    refine x_bipush dX11_ever_28 (by decide) ?_
    refine x_callVi (As := [iV r7, iV 0, iV (μ5 263 4), iV 8]) (rest := []) cal_X11_walk ins_X11_walk sel_X11_walk ly260 (by decide) rfl (xX11_walk x r7 0 (μ5 263 4) 8 _ _ i8 (Or.inl rfl) r9 ⟨by decide, by decide⟩ h) rfl ml_X11_349 (xRoom (Nat.le_of_ble_eq_true rfl)) (Nat.le_of_ble_eq_true rfl) dX11_ever_30 (fun r12 μ10 i13 n11 h => ?_)
    have h := h i13 n11
    refine x_istore_n [(1, iV r12), (0, .ref (x.2.2.1 + 260))] dX11_ever_33 (show 1 < 4 by decide) rfl ?_
    refine x_iconst dX11_ever_34 ?_
    refine x_istore_n [(2, iV 0), (1, iV r12), (0, .ref (x.2.2.1 + 260))] dX11_ever_35 (show 2 < 4 by decide) rfl ?_
    refine x_iconst dX11_ever_36 ?_
    refine x_istore_n [(3, iV 0), (2, iV 0), (1, iV r12), (0, .ref (x.2.2.1 + 260))] dX11_ever_37 (show 3 < 4 by decide) rfl ?_
    refine x_sub [3, 2, 1, 0] rfl ?_
    refine x_loop2 (fun l2_14 l3_15 => [(0, .ref (x.2.2.1 + 260)), (1, iV r12), (2, iV l2_14), (3, iV l3_15)]) h (fun J38 l2_14 l3_15 μ16 hJ38 h n17 => ?_)
    refine x_iload_n 3 rfl dX11_ever_38 ?_
    refine x_iload_n 1 rfl dX11_ever_39 ?_
    obtain ⟨c18, h⟩ := h
    refine x_icmpge (tgt := 78) c18 i13 dX11_ever_40 (by decide) (fun k19 => ?_) (fun k19 => ?_)
    · have h := h.1 k19
      refine x_iload_n 2 rfl dX11_ever_78 ?_
      obtain ⟨c20, h⟩ := h
      exact x_iret h c20 rfl dX11_ever_79
    · have h := h.2 k19
      refine x_aload_n 0 rfl dX11_ever_43 ?_
      refine x_aload_n 0 rfl dX11_ever_44 ?_
      refine x_getR (j := 35) (r := 277) ly260 (by decide) rfl rfl (by decide) inT11 fl_X11_63 dX11_ever_45 ?_
      refine x_iload_n 3 rfl dX11_ever_48 ?_
      obtain ⟨c21, h⟩ := h
      refine x_iald ly277 c21.1 c21.2 (xIb (n := 15625) c21 (by decide)) (by decide) dX11_ever_49 (fun r22 => ?_)
      refine x_callVi (As := [iV (μ16 277 l3_15.toNat)]) (rest := []) cal_X11_lettersAt ins_X11_lettersAt sel_X11_lettersAt ly260 (by decide) rfl (xX11_lettersAt x (μ16 277 l3_15.toNat) _ _ r22 h) rfl ml_X11_343 (xRoom (Nat.le_of_ble_eq_true rfl)) (Nat.le_of_ble_eq_true rfl) dX11_ever_50 (fun r25 μ23 i26 n24 h => ?_)
      have h := h i26 n24
      refine x_iload_n 2 rfl dX11_ever_53 ?_
      obtain ⟨c27, h⟩ := h
      refine x_icmple (tgt := 70) i26 c27 dX11_ever_54 (by decide) (fun k28 => ?_) (fun k28 => ?_)
      · have h := h.1 k28
        refine x_iload_n 2 rfl dX11_ever_70 ?_
        refine x_istore_n [(2, iV l2_14), (0, .ref (x.2.2.1 + 260)), (1, iV r12), (3, iV l3_15)] dX11_ever_71 (show 2 < 4 by decide) rfl ?_
        refine x_iinc 3 rfl [(3, iV (l3_15 + 1)), (2, iV l2_14), (0, .ref (x.2.2.1 + 260)), (1, iV r12)] dX11_ever_72 (show 3 < 4 by decide) rfl ?_
        refine x_goto (tgt := 38) dX11_ever_75 (by decide) ?_
        exact x_sub [2, 3, 1, 0] rfl (hJ38 _ _ _ h)
      · have h := h.2 k28
        refine x_aload_n 0 rfl dX11_ever_57 ?_
        refine x_aload_n 0 rfl dX11_ever_58 ?_
        refine x_getR (j := 35) (r := 277) ly260 (by decide) rfl rfl (by decide) inT11 fl_X11_63 dX11_ever_59 ?_
        refine x_iload_n 3 rfl dX11_ever_62 ?_
        refine x_iald ly277 c21.1 c21.2 (xIb (n := 15625) c21 (by decide)) (by decide) dX11_ever_63 (fun r29 => ?_)
        refine x_callVi (As := [iV (μ23 277 l3_15.toNat)]) (rest := []) cal_X11_lettersAt ins_X11_lettersAt sel_X11_lettersAt ly260 (by decide) rfl (xX11_lettersAt x (μ23 277 l3_15.toNat) _ _ r29 h) rfl ml_X11_343 (xRoom (Nat.le_of_ble_eq_true rfl)) (Nat.le_of_ble_eq_true rfl) dX11_ever_64 (fun r32 μ30 i33 n31 h => ?_)
        have h := h i33 n31
        refine x_goto (tgt := 71) dX11_ever_67 (by decide) ?_
        refine x_istore_n [(2, iV r32), (0, .ref (x.2.2.1 + 260)), (1, iV r12), (3, iV l3_15)] dX11_ever_71 (show 2 < 4 by decide) rfl ?_
        refine x_iinc 3 rfl [(3, iV (l3_15 + 1)), (2, iV r32), (0, .ref (x.2.2.1 + 260)), (1, iV r12)] dX11_ever_72 (show 3 < 4 by decide) rfl ?_
        refine x_goto (tgt := 38) dX11_ever_75 (by decide) ?_
        exact x_sub [2, 3, 1, 0] rfl (hJ38 _ _ _ h)
  · have h := h.2 k4
    refine x_aload_n 0 rfl dX11_ever_11 ?_
    refine x_iconst dX11_ever_12 ?_
    refine x_callVi (As := [iV 1]) (rest := []) cal_X11_no ins_X11_no sel_X11_no ly260 (by decide) rfl (xX11_no x 1 _ _ ⟨by decide, by decide⟩ h) rfl ml_X11_158 (xRoom (Nat.le_of_ble_eq_true rfl)) (Nat.le_of_ble_eq_true rfl) dX11_ever_13 (fun r36 μ34 i37 n35 h => ?_)
    have h := h i37 n35
    exact x_iret h i37 rfl dX11_ever_16
set_option maxRecDepth 100000 in
set_option maxHeartbeats 4000000 in
theorem xX11_mayBe (x : xX) (p1 : Int) (p2 : Int) (μ : xM) (Q : Int → xM → Prop) (hp1 : xIn p1) (hp2 : xIn p2) (h : tX11_mayBe p1 p2 μ Q) : xMet x 3 yX11_mayBe cX11_mayBe 3 (some .boolean) [.ref (x.2.2.1 + 260), iV p1, iV p2] μ (xQz x Q) := by
  refine xMet_of (by decide +kernel) (Nat.le_of_ble_eq_true rfl) ?_
  show xW x (xRm 3, RX11, cX11_mayBe, 3, (some .boolean), fun _ _ => True) (xQz x Q) 0 [(0, .ref (x.2.2.1 + 260)), (1, iV p1), (2, iV p2)] [] μ
  refine x_ran (fun n0 => ?_)
  have h := h n0 hp1 hp2
  refine x_iload_n 2 rfl dX11_mayBe_0 ?_
  refine x_iconst dX11_mayBe_1 ?_
  refine x_icmpeq (tgt := 21) hp2 ⟨by decide, by decide⟩ dX11_mayBe_2 (by decide) (fun k1 => ?_) (fun k1 => ?_)
  · have h := h.1 k1
    refine x_iconst dX11_mayBe_21 ?_
    refine x_goto (tgt := 26) dX11_mayBe_22 (by decide) ?_
    exact x_zret h (Or.inr rfl) rfl dX11_mayBe_26
  · have h := h.2 k1
    refine x_aload_n 0 rfl dX11_mayBe_5 ?_
    refine x_iload_n 1 rfl dX11_mayBe_6 ?_
    refine x_callVz (As := [iV p1]) (rest := []) cal_X11_isTable ins_X11_isTable sel_X11_isTable ly260 (by decide) rfl (xX11_isTable x p1 _ _ hp1 h) rfl ml_X11_309 (xRoom (Nat.le_of_ble_eq_true rfl)) (Nat.le_of_ble_eq_true rfl) dX11_mayBe_7 (fun r4 μ2 i5 n3 h => ?_)
    have h := h i5 n3
    refine x_ifeq (tgt := 25) (xIz i5)  dX11_mayBe_10 (by decide) (fun k6 => ?_) (fun k6 => ?_)
    · have h := h.1 k6
      refine x_iconst dX11_mayBe_25 ?_
      exact x_zret h (Or.inl rfl) rfl dX11_mayBe_26
    · have h := h.2 (xz1 i5 k6)
      refine x_aload_n 0 rfl dX11_mayBe_13 ?_
      refine x_iload_n 2 rfl dX11_mayBe_14 ?_
      refine x_callVz (As := [iV p2]) (rest := []) cal_X11_isWordThere ins_X11_isWordThere sel_X11_isWordThere ly260 (by decide) rfl (xX11_isWordThere x p2 _ _ hp2 h) rfl ml_X11_249 (xRoom (Nat.le_of_ble_eq_true rfl)) (Nat.le_of_ble_eq_true rfl) dX11_mayBe_15 (fun r9 μ7 i10 n8 h => ?_)
      have h := h i10 n8
      refine x_ifeq (tgt := 25) (xIz i10)  dX11_mayBe_18 (by decide) (fun k11 => ?_) (fun k11 => ?_)
      · have h := h.1 k11
        refine x_iconst dX11_mayBe_25 ?_
        exact x_zret h (Or.inl rfl) rfl dX11_mayBe_26
      · have h := h.2 (xz1 i10 k11)
        refine x_iconst dX11_mayBe_21 ?_
        refine x_goto (tgt := 26) dX11_mayBe_22 (by decide) ?_
        exact x_zret h (Or.inr rfl) rfl dX11_mayBe_26
set_option maxRecDepth 100000 in
set_option maxHeartbeats 4000000 in
theorem xX11_isGoodOrNone (x : xX) (p1 : Int) (μ : xM) (Q : Int → xM → Prop) (hp1 : xIn p1) (h : tX11_isGoodOrNone p1 μ Q) : xMet x 2 yX11_isGoodOrNone cX11_isGoodOrNone 2 (some .boolean) [.ref (x.2.2.1 + 260), iV p1] μ (xQz x Q) := by
  refine xMet_of (by decide +kernel) (Nat.le_of_ble_eq_true rfl) ?_
  show xW x (xRm 2, RX11, cX11_isGoodOrNone, 2, (some .boolean), fun _ _ => True) (xQz x Q) 0 [(0, .ref (x.2.2.1 + 260)), (1, iV p1)] [] μ
  refine x_ran (fun n0 => ?_)
  have h := h n0 hp1
  refine x_iload_n 1 rfl dX11_isGoodOrNone_0 ?_
  refine x_iconst dX11_isGoodOrNone_1 ?_
  refine x_icmpeq (tgt := 13) hp1 ⟨by decide, by decide⟩ dX11_isGoodOrNone_2 (by decide) (fun k1 => ?_) (fun k1 => ?_)
  · have h := h.1 k1
    refine x_iconst dX11_isGoodOrNone_13 ?_
    refine x_goto (tgt := 18) dX11_isGoodOrNone_14 (by decide) ?_
    exact x_zret h (Or.inr rfl) rfl dX11_isGoodOrNone_18
  · have h := h.2 k1
    refine x_aload_n 0 rfl dX11_isGoodOrNone_5 ?_
    refine x_iload_n 1 rfl dX11_isGoodOrNone_6 ?_
    refine x_callVz (As := [iV p1]) (rest := []) cal_X11_isGood ins_X11_isGood sel_X11_isGood ly260 (by decide) rfl (xX11_isGood x p1 _ _ hp1 h) rfl ml_X11_240 (xRoom (Nat.le_of_ble_eq_true rfl)) (Nat.le_of_ble_eq_true rfl) dX11_isGoodOrNone_7 (fun r4 μ2 i5 n3 h => ?_)
    have h := h i5 n3
    refine x_ifeq (tgt := 17) (xIz i5)  dX11_isGoodOrNone_10 (by decide) (fun k6 => ?_) (fun k6 => ?_)
    · have h := h.1 k6
      refine x_iconst dX11_isGoodOrNone_17 ?_
      exact x_zret h (Or.inl rfl) rfl dX11_isGoodOrNone_18
    · have h := h.2 (xz1 i5 k6)
      refine x_iconst dX11_isGoodOrNone_13 ?_
      refine x_goto (tgt := 18) dX11_isGoodOrNone_14 (by decide) ?_
      exact x_zret h (Or.inr rfl) rfl dX11_isGoodOrNone_18
set_option maxRecDepth 100000 in
set_option maxHeartbeats 4000000 in
theorem xX11_steps_b131 (x : xX) (p1 : Int) (p2 : Int) (p3 : Int) (p4 : Int) (s0 : Int) (s1 : Int) (s2 : Int) (μ : xM) (Q : Int → xM → Prop)  (hp1 : xIn p1) (hp2 : xIn p2) (hp3 : xIn p3) (hp4 : xIn p4)  (h : tX11_steps_b131 p1 p2 p3 p4 s0 s1 s2 μ Q ) : xW x (xRm 4, RX11, cX11_steps, 6, (some .int), fun _ _ => True) (xQi x Q) 131 [(0, .ref (x.2.2.1 + 260)), (4, iV p4)] [iV s2, iV s1, iV s0] μ := by
  refine x_ran (fun n0 => ?_)
  have h := h n0
  refine x_imul dX11_steps_131 ?_
  refine x_iadd dX11_steps_132 ?_
  refine x_istore [(5, iV (s0 + (s1 * s2))), (0, .ref (x.2.2.1 + 260)), (4, iV p4)] dX11_steps_133 (show 5 < 6 by decide) rfl ?_
  refine x_aload_n 1 rfl dX11_steps_135 ?_
  refine x_aload_n 1 rfl dX11_steps_136 ?_
  refine x_callVi (As := []) (rest := [.ref (x.2.2.1 + 260)]) cal_X11_code ins_X11_code sel_X11_code ly260 (by decide) rfl (xX11_code x  _ _  h) rfl ml_X11_331 (xRoom (Nat.le_of_ble_eq_true rfl)) (Nat.le_of_ble_eq_true rfl) dX11_steps_137 (fun r65 μ63 i66 n64 h => ?_)
  have h := h i66 n64
  refine x_iconst dX11_steps_140 ?_
  refine x_aload_n 1 rfl dX11_steps_141 ?_
  refine x_getR (j := 17) (r := 265) ly260 (by decide) rfl rfl (by decide) inT11 fl_X11_26 dX11_steps_142 ?_
  refine x_iconst dX11_steps_145 ?_
  refine x_iald ly265 (by decide) (by decide) ⟨by decide, by decide⟩ (by decide) dX11_steps_146 (fun r67 => ?_)
  refine x_iload 2 rfl dX11_steps_147 ?_
  refine x_callVi (As := [iV r65, iV 1, iV (μ63 265 4), iV p4]) (rest := []) cal_X11_walk ins_X11_walk sel_X11_walk ly260 (by decide) rfl (xX11_walk x r65 1 (μ63 265 4) p4 _ _ i66 (Or.inr rfl) r67 hp4 h) rfl ml_X11_349 (xRoom (Nat.le_of_ble_eq_true rfl)) (Nat.le_of_ble_eq_true rfl) dX11_steps_149 (fun r70 μ68 i71 n69 h => ?_)
  have h := h i71 n69
  refine x_pop rfl dX11_steps_152 ?_
  refine x_aload_n 1 rfl dX11_steps_153 ?_
  refine x_getR (j := 36) (r := 278) ly260 (by decide) rfl rfl (by decide) inT11 fl_X11_66 dX11_steps_154 ?_
  refine x_iload 0 rfl dX11_steps_157 ?_
  obtain ⟨c72, h⟩ := h
  refine x_iald ly278 c72.1 c72.2 (xIb (n := 15625) c72 (by decide)) (by decide) dX11_steps_159 (fun r73 => ?_)
  refine x_ifge (tgt := 168) r73  dX11_steps_160 (by decide) (fun k74 => ?_) (fun k74 => ?_)
  · have h := h.1 k74
    refine x_aload_n 1 rfl dX11_steps_168 ?_
    refine x_getR (j := 36) (r := 278) ly260 (by decide) rfl rfl (by decide) inT11 fl_X11_66 dX11_steps_169 ?_
    refine x_iload 0 rfl dX11_steps_172 ?_
    refine x_iald ly278 c72.1 c72.2 (xIb (n := 15625) c72 (by decide)) (by decide) dX11_steps_174 (fun r75 => ?_)
    exact x_iret h r75 rfl dX11_steps_175
  · have h := h.2 k74
    refine x_bipush dX11_steps_163 (by decide) ?_
    refine x_goto (tgt := 175) dX11_steps_165 (by decide) ?_
    exact x_iret h ⟨by decide, by decide⟩ rfl dX11_steps_175
set_option maxRecDepth 100000 in
set_option maxHeartbeats 4000000 in
theorem xX11_steps_b115 (x : xX) (p1 : Int) (p2 : Int) (p3 : Int) (p4 : Int) (s0 : Int) (s1 : Int) (s2 : Int) (μ : xM) (Q : Int → xM → Prop)  (hp1 : xIn p1) (hp2 : xIn p2) (hp3 : xIn p3) (hp4 : xIn p4)  (h : tX11_steps_b115 p1 p2 p3 p4 s0 s1 s2 μ Q ) : xW x (xRm 4, RX11, cX11_steps, 6, (some .int), fun _ _ => True) (xQi x Q) 115 [(0, .ref (x.2.2.1 + 260)), (3, iV p3), (4, iV p4)] [iV s2, iV s1, iV s0] μ := by
  refine x_ran (fun n0 => ?_)
  have h := h n0
  refine x_imul dX11_steps_115 ?_
  refine x_iadd dX11_steps_116 ?_
  refine x_sipush dX11_steps_117 (by decide) ?_
  refine x_iload_n 1 rfl dX11_steps_120 ?_
  refine x_iconst dX11_steps_121 ?_
  refine x_icmpne (tgt := 130) hp3 ⟨by decide, by decide⟩ dX11_steps_122 (by decide) (fun k62 => ?_) (fun k62 => ?_)
  · have h := h.1 k62
    refine x_iload_n 1 rfl dX11_steps_130 ?_
    exact x_sub [0, 2] rfl (xX11_steps_b131 x p1 p2 p3 p4 (s0 + (s1 * s2)) 625 p3 μ Q  hp1 hp2 hp3 hp4 h)
  · have h := h.2 k62
    refine x_bipush dX11_steps_125 (by decide) ?_
    refine x_goto (tgt := 131) dX11_steps_127 (by decide) ?_
    exact x_sub [0, 2] rfl (xX11_steps_b131 x p1 p2 p3 p4 (s0 + (s1 * s2)) 625 24 μ Q  hp1 hp2 hp3 hp4 h)
set_option maxRecDepth 100000 in
set_option maxHeartbeats 4000000 in
theorem xX11_steps_b102 (x : xX) (p1 : Int) (p2 : Int) (p3 : Int) (p4 : Int) (s0 : Int) (μ : xM) (Q : Int → xM → Prop)  (hp1 : xIn p1) (hp2 : xIn p2) (hp3 : xIn p3) (hp4 : xIn p4)  (h : tX11_steps_b102 p1 p2 p3 p4 s0 μ Q ) : xW x (xRm 4, RX11, cX11_steps, 6, (some .int), fun _ _ => True) (xQi x Q) 102 [(0, .ref (x.2.2.1 + 260)), (2, iV p2), (3, iV p3), (4, iV p4)] [iV s0] μ := by
  refine x_ran (fun n0 => ?_)
  have h := h n0
  refine x_bipush dX11_steps_102 (by decide) ?_
  refine x_iload_n 1 rfl dX11_steps_104 ?_
  refine x_iconst dX11_steps_105 ?_
  refine x_icmpne (tgt := 114) hp2 ⟨by decide, by decide⟩ dX11_steps_106 (by decide) (fun k61 => ?_) (fun k61 => ?_)
  · have h := h.1 k61
    refine x_iload_n 1 rfl dX11_steps_114 ?_
    exact x_sub [0, 2, 3] rfl (xX11_steps_b115 x p1 p2 p3 p4 s0 25 p2 μ Q  hp1 hp2 hp3 hp4 h)
  · have h := h.2 k61
    refine x_bipush dX11_steps_109 (by decide) ?_
    refine x_goto (tgt := 115) dX11_steps_111 (by decide) ?_
    exact x_sub [0, 2, 3] rfl (xX11_steps_b115 x p1 p2 p3 p4 s0 25 24 μ Q  hp1 hp2 hp3 hp4 h)
set_option maxRecDepth 100000 in
set_option maxHeartbeats 4000000 in
theorem xX11_steps (x : xX) (p1 : Int) (p2 : Int) (p3 : Int) (p4 : Int) (μ : xM) (Q : Int → xM → Prop) (hp1 : xIn p1) (hp2 : xIn p2) (hp3 : xIn p3) (hp4 : xIn p4) (h : tX11_steps p1 p2 p3 p4 μ Q) : xMet x 4 yX11_steps cX11_steps 6 (some .int) [.ref (x.2.2.1 + 260), iV p1, iV p2, iV p3, iV p4] μ (xQi x Q) := by
  refine xMet_of (by decide +kernel) (Nat.le_of_ble_eq_true rfl) ?_
  show xW x (xRm 4, RX11, cX11_steps, 6, (some .int), fun _ _ => True) (xQi x Q) 0 [(0, .ref (x.2.2.1 + 260)), (1, iV p1), (2, iV p2), (3, iV p3), (4, iV p4)] [] μ
  refine x_ran (fun n0 => ?_)
  have h := h n0 hp1 hp2 hp3 hp4
  refine x_aload_n 0 rfl dX11_steps_0 ?_
  refine x_callVv (As := []) (rest := []) cal_X11_good ins_X11_good sel_X11_good ly260 (by decide) rfl (xX11_good x  _ _  h) rfl ml_X11_155 (xRoom (Nat.le_of_ble_eq_true rfl)) (Nat.le_of_ble_eq_true rfl) dX11_steps_1 (fun μ1 n2 h => ?_)
  have h := h n2
  refine x_aload_n 0 rfl dX11_steps_4 ?_
  refine x_getI (j := 14) ly260 (by decide) rfl rfl (by decide) inT11 fl_X11_164 dX11_steps_5 (fun r3 => ?_)
  refine x_ifeq (tgt := 38) r3  dX11_steps_8 (by decide) (fun k4 => ?_) (fun k4 => ?_)
  · have h := h.1 k4
    refine x_aload_n 0 rfl dX11_steps_38 ?_
    refine x_iconst dX11_steps_39 ?_
    refine x_callVi (As := [iV 1]) (rest := []) cal_X11_no ins_X11_no sel_X11_no ly260 (by decide) rfl (xX11_no x 1 _ _ ⟨by decide, by decide⟩ h) rfl ml_X11_158 (xRoom (Nat.le_of_ble_eq_true rfl)) (Nat.le_of_ble_eq_true rfl) dX11_steps_40 (fun r7 μ5 i8 n6 h => ?_)
    have h := h i8 n6
    exact x_iret h i8 rfl dX11_steps_43
  · have h := h.2 k4
    refine x_aload_n 0 rfl dX11_steps_11 ?_
    refine x_iconst dX11_steps_12 ?_
    refine x_iload_n 1 rfl dX11_steps_13 ?_
    refine x_callVz (As := [iV 0, iV p1]) (rest := []) cal_X11_mayBe ins_X11_mayBe sel_X11_mayBe ly260 (by decide) rfl (xX11_mayBe x 0 p1 _ _ ⟨by decide, by decide⟩ hp1 h) rfl ml_X11_353 (xRoom (Nat.le_of_ble_eq_true rfl)) (Nat.le_of_ble_eq_true rfl) dX11_steps_14 (fun r11 μ9 i12 n10 h => ?_)
    have h := h i12 n10
    refine x_ifeq (tgt := 38) (xIz i12)  dX11_steps_17 (by decide) (fun k13 => ?_) (fun k13 => ?_)
    · have h := h.1 k13
      refine x_aload_n 0 rfl dX11_steps_38 ?_
      refine x_iconst dX11_steps_39 ?_
      refine x_callVi (As := [iV 1]) (rest := []) cal_X11_no ins_X11_no sel_X11_no ly260 (by decide) rfl (xX11_no x 1 _ _ ⟨by decide, by decide⟩ h) rfl ml_X11_158 (xRoom (Nat.le_of_ble_eq_true rfl)) (Nat.le_of_ble_eq_true rfl) dX11_steps_40 (fun r16 μ14 i17 n15 h => ?_)
      have h := h i17 n15
      exact x_iret h i17 rfl dX11_steps_43
    · have h := h.2 (xz1 i12 k13)
      refine x_aload_n 0 rfl dX11_steps_20 ?_
      refine x_iconst dX11_steps_21 ?_
      refine x_iload_n 2 rfl dX11_steps_22 ?_
      refine x_callVz (As := [iV 1, iV p2]) (rest := []) cal_X11_mayBe ins_X11_mayBe sel_X11_mayBe ly260 (by decide) rfl (xX11_mayBe x 1 p2 _ _ ⟨by decide, by decide⟩ hp2 h) rfl ml_X11_353 (xRoom (Nat.le_of_ble_eq_true rfl)) (Nat.le_of_ble_eq_true rfl) dX11_steps_23 (fun r20 μ18 i21 n19 h => ?_)
      have h := h i21 n19
      refine x_ifeq (tgt := 38) (xIz i21)  dX11_steps_26 (by decide) (fun k22 => ?_) (fun k22 => ?_)
      · have h := h.1 k22
        refine x_aload_n 0 rfl dX11_steps_38 ?_
        refine x_iconst dX11_steps_39 ?_
        refine x_callVi (As := [iV 1]) (rest := []) cal_X11_no ins_X11_no sel_X11_no ly260 (by decide) rfl (xX11_no x 1 _ _ ⟨by decide, by decide⟩ h) rfl ml_X11_158 (xRoom (Nat.le_of_ble_eq_true rfl)) (Nat.le_of_ble_eq_true rfl) dX11_steps_40 (fun r25 μ23 i26 n24 h => ?_)
        have h := h i26 n24
        exact x_iret h i26 rfl dX11_steps_43
      · have h := h.2 (xz1 i21 k22)
        refine x_aload_n 0 rfl dX11_steps_29 ?_
        refine x_iconst dX11_steps_30 ?_
        refine x_iload_n 3 rfl dX11_steps_31 ?_
        refine x_callVz (As := [iV 2, iV p3]) (rest := []) cal_X11_mayBe ins_X11_mayBe sel_X11_mayBe ly260 (by decide) rfl (xX11_mayBe x 2 p3 _ _ ⟨by decide, by decide⟩ hp3 h) rfl ml_X11_353 (xRoom (Nat.le_of_ble_eq_true rfl)) (Nat.le_of_ble_eq_true rfl) dX11_steps_32 (fun r29 μ27 i30 n28 h => ?_)
        have h := h i30 n28
        refine x_ifne (tgt := 44) (xIz i30)  dX11_steps_35 (by decide) (fun k31 => ?_) (fun k31 => ?_)
        · have h := h.1 (xz1 i30 k31)
          refine x_iload 4 rfl dX11_steps_44 ?_
          refine x_iconst dX11_steps_46 ?_
          refine x_bipush dX11_steps_47 (by decide) ?_
          refine x_callSz (As := [iV p4, iV 0, iV 8]) (rest := []) cal_X11_within sta_X11_within (xX11_within x p4 0 8 _ _ hp4 ⟨by decide, by decide⟩ ⟨by decide, by decide⟩ h) rfl ml_X11_143 (xRoom (Nat.le_of_ble_eq_true rfl)) (Nat.le_of_ble_eq_true rfl) dX11_steps_49 (fun r34 μ32 i35 n33 h => ?_)
          have h := h i35 n33
          refine x_ifne (tgt := 61) (xIz i35)  dX11_steps_52 (by decide) (fun k36 => ?_) (fun k36 => ?_)
          · have h := h.1 (xz1 i35 k36)
            refine x_aload_n 0 rfl dX11_steps_61 ?_
            refine x_iload_n 1 rfl dX11_steps_62 ?_
            refine x_callVz (As := [iV p1]) (rest := []) cal_X11_isGoodOrNone ins_X11_isGoodOrNone sel_X11_isGoodOrNone ly260 (by decide) rfl (xX11_isGoodOrNone x p1 _ _ hp1 h) rfl ml_X11_356 (xRoom (Nat.le_of_ble_eq_true rfl)) (Nat.le_of_ble_eq_true rfl) dX11_steps_63 (fun r39 μ37 i40 n38 h => ?_)
            have h := h i40 n38
            refine x_ifeq (tgt := 85) (xIz i40)  dX11_steps_66 (by decide) (fun k41 => ?_) (fun k41 => ?_)
            · have h := h.1 k41
              refine x_aload_n 0 rfl dX11_steps_85 ?_
              refine x_iconst dX11_steps_86 ?_
              refine x_callVi (As := [iV 5]) (rest := []) cal_X11_no ins_X11_no sel_X11_no ly260 (by decide) rfl (xX11_no x 5 _ _ ⟨by decide, by decide⟩ h) rfl ml_X11_158 (xRoom (Nat.le_of_ble_eq_true rfl)) (Nat.le_of_ble_eq_true rfl) dX11_steps_87 (fun r44 μ42 i45 n43 h => ?_)
              have h := h i45 n43
              exact x_iret h i45 rfl dX11_steps_90
            · have h := h.2 (xz1 i40 k41)
              refine x_aload_n 0 rfl dX11_steps_69 ?_
              refine x_iload_n 2 rfl dX11_steps_70 ?_
              refine x_callVz (As := [iV p2]) (rest := []) cal_X11_isGoodOrNone ins_X11_isGoodOrNone sel_X11_isGoodOrNone ly260 (by decide) rfl (xX11_isGoodOrNone x p2 _ _ hp2 h) rfl ml_X11_356 (xRoom (Nat.le_of_ble_eq_true rfl)) (Nat.le_of_ble_eq_true rfl) dX11_steps_71 (fun r48 μ46 i49 n47 h => ?_)
              have h := h i49 n47
              refine x_ifeq (tgt := 85) (xIz i49)  dX11_steps_74 (by decide) (fun k50 => ?_) (fun k50 => ?_)
              · have h := h.1 k50
                refine x_aload_n 0 rfl dX11_steps_85 ?_
                refine x_iconst dX11_steps_86 ?_
                refine x_callVi (As := [iV 5]) (rest := []) cal_X11_no ins_X11_no sel_X11_no ly260 (by decide) rfl (xX11_no x 5 _ _ ⟨by decide, by decide⟩ h) rfl ml_X11_158 (xRoom (Nat.le_of_ble_eq_true rfl)) (Nat.le_of_ble_eq_true rfl) dX11_steps_87 (fun r53 μ51 i54 n52 h => ?_)
                have h := h i54 n52
                exact x_iret h i54 rfl dX11_steps_90
              · have h := h.2 (xz1 i49 k50)
                refine x_aload_n 0 rfl dX11_steps_77 ?_
                refine x_iload_n 3 rfl dX11_steps_78 ?_
                refine x_callVz (As := [iV p3]) (rest := []) cal_X11_isGoodOrNone ins_X11_isGoodOrNone sel_X11_isGoodOrNone ly260 (by decide) rfl (xX11_isGoodOrNone x p3 _ _ hp3 h) rfl ml_X11_356 (xRoom (Nat.le_of_ble_eq_true rfl)) (Nat.le_of_ble_eq_true rfl) dX11_steps_79 (fun r57 μ55 i58 n56 h => ?_)
                have h := h i58 n56
                refine x_ifne (tgt := 91) (xIz i58)  dX11_steps_82 (by decide) (fun k59 => ?_) (fun k59 => ?_)
                · have h := h.1 (xz1 i58 k59)
                  refine x_iload_n 1 rfl dX11_steps_91 ?_
                  refine x_iconst dX11_steps_92 ?_
                  refine x_icmpne (tgt := 101) hp1 ⟨by decide, by decide⟩ dX11_steps_93 (by decide) (fun k60 => ?_) (fun k60 => ?_)
                  · have h := h.1 k60
                    refine x_iload_n 1 rfl dX11_steps_101 ?_
                    exact x_sub [0, 2, 3, 4] rfl (xX11_steps_b102 x p1 p2 p3 p4 p1 μ55 Q  hp1 hp2 hp3 hp4 h)
                  · have h := h.2 k60
                    refine x_bipush dX11_steps_96 (by decide) ?_
                    refine x_goto (tgt := 102) dX11_steps_98 (by decide) ?_
                    exact x_sub [0, 2, 3, 4] rfl (xX11_steps_b102 x p1 p2 p3 p4 24 μ55 Q  hp1 hp2 hp3 hp4 h)
                · have h := h.2 k59
                  refine x_aload_n 0 rfl dX11_steps_85 ?_
                  refine x_iconst dX11_steps_86 ?_
                  refine x_callVi (As := [iV 5]) (rest := []) cal_X11_no ins_X11_no sel_X11_no ly260 (by decide) rfl (xX11_no x 5 _ _ ⟨by decide, by decide⟩ h) rfl ml_X11_158 (xRoom (Nat.le_of_ble_eq_true rfl)) (Nat.le_of_ble_eq_true rfl) dX11_steps_87 (fun r78 μ76 i79 n77 h => ?_)
                  have h := h i79 n77
                  exact x_iret h i79 rfl dX11_steps_90
          · have h := h.2 k36
            refine x_aload_n 0 rfl dX11_steps_55 ?_
            refine x_iconst dX11_steps_56 ?_
            refine x_callVi (As := [iV 2]) (rest := []) cal_X11_no ins_X11_no sel_X11_no ly260 (by decide) rfl (xX11_no x 2 _ _ ⟨by decide, by decide⟩ h) rfl ml_X11_158 (xRoom (Nat.le_of_ble_eq_true rfl)) (Nat.le_of_ble_eq_true rfl) dX11_steps_57 (fun r82 μ80 i83 n81 h => ?_)
            have h := h i83 n81
            exact x_iret h i83 rfl dX11_steps_60
        · have h := h.2 k31
          refine x_aload_n 0 rfl dX11_steps_38 ?_
          refine x_iconst dX11_steps_39 ?_
          refine x_callVi (As := [iV 1]) (rest := []) cal_X11_no ins_X11_no sel_X11_no ly260 (by decide) rfl (xX11_no x 1 _ _ ⟨by decide, by decide⟩ h) rfl ml_X11_158 (xRoom (Nat.le_of_ble_eq_true rfl)) (Nat.le_of_ble_eq_true rfl) dX11_steps_40 (fun r86 μ84 i87 n85 h => ?_)
          have h := h i87 n85
          exact x_iret h i87 rfl dX11_steps_43
set_option maxRecDepth 100000 in
set_option maxHeartbeats 4000000 in
theorem xX11_weights (x : xX)  (μ : xM) (Q : Int → xM → Prop)  (h : tX11_weights  μ Q) : xMet x 1 yX11_weights cX11_weights 3 (some .int) [.ref (x.2.2.1 + 260)] μ (xQi x Q) := by
  refine xMet_of (by decide +kernel) (Nat.le_of_ble_eq_true rfl) ?_
  show xW x (xRm 1, RX11, cX11_weights, 3, (some .int), fun _ _ => True) (xQi x Q) 0 [(0, .ref (x.2.2.1 + 260))] [] μ
  refine x_ran (fun n0 => ?_)
  have h := h n0 
  refine x_iconst dX11_weights_0 ?_
  refine x_istore_n [(1, iV 0), (0, .ref (x.2.2.1 + 260))] dX11_weights_1 (show 1 < 3 by decide) rfl ?_
  refine x_iconst dX11_weights_2 ?_
  refine x_istore_n [(2, iV 0), (1, iV 0), (0, .ref (x.2.2.1 + 260))] dX11_weights_3 (show 2 < 3 by decide) rfl ?_
  refine x_sub [2, 1, 0] rfl ?_
  refine x_loop2 (fun l1_1 l2_2 => [(0, .ref (x.2.2.1 + 260)), (1, iV l1_1), (2, iV l2_2)]) h (fun J4 l1_1 l2_2 μ3 hJ4 h n4 => ?_)
  refine x_iload_n 2 rfl dX11_weights_4 ?_
  refine x_aload_n 0 rfl dX11_weights_5 ?_
  refine x_getR (j := 15) (r := 263) ly260 (by decide) rfl rfl (by decide) inT11 fl_X11_20 dX11_weights_6 ?_
  refine x_iconst dX11_weights_9 ?_
  refine x_iald ly263 (by decide) (by decide) ⟨by decide, by decide⟩ (by decide) dX11_weights_10 (fun r5 => ?_)
  obtain ⟨c6, h⟩ := h
  refine x_icmpge (tgt := 33) c6 r5 dX11_weights_11 (by decide) (fun k7 => ?_) (fun k7 => ?_)
  · have h := h.1 k7
    refine x_iload_n 1 rfl dX11_weights_33 ?_
    obtain ⟨c8, h⟩ := h
    exact x_iret h c8 rfl dX11_weights_34
  · have h := h.2 k7
    refine x_iload_n 1 rfl dX11_weights_14 ?_
    refine x_aload_n 0 rfl dX11_weights_15 ?_
    refine x_getR (j := 15) (r := 263) ly260 (by decide) rfl rfl (by decide) inT11 fl_X11_20 dX11_weights_16 ?_
    refine x_sipush dX11_weights_19 (by decide) ?_
    refine x_iload_n 2 rfl dX11_weights_22 ?_
    refine x_iadd dX11_weights_23 ?_
    obtain ⟨c9, h⟩ := h
    refine x_iald ly263 c9.1 c9.2 (xIb (n := 322) c9 (by decide)) (by decide) dX11_weights_24 (fun r10 => ?_)
    refine x_iadd dX11_weights_25 ?_
    refine x_istore_n [(1, iV (l1_1 + (μ3 263 ((309 + l2_2).toNat)))), (0, .ref (x.2.2.1 + 260)), (2, iV l2_2)] dX11_weights_26 (show 1 < 3 by decide) rfl ?_
    refine x_iinc 2 rfl [(2, iV (l2_2 + 1)), (1, iV (l1_1 + (μ3 263 ((309 + l2_2).toNat)))), (0, .ref (x.2.2.1 + 260))] dX11_weights_27 (show 2 < 3 by decide) rfl ?_
    refine x_goto (tgt := 4) dX11_weights_30 (by decide) ?_
    exact x_sub [2, 1, 0] rfl (hJ4 _ _ _ h)
set_option maxRecDepth 100000 in
set_option maxHeartbeats 4000000 in
theorem xX11_power (x : xX) (p1 : Int) (μ : xM) (Q : Int → xM → Prop) (hp1 : xIn p1) (h : tX11_power p1 μ Q) : xMet x 2 yX11_power cX11_power 5 (some .long) [.ref (x.2.2.1 + 260), iV p1] μ (xQl x Q) := by
  refine xMet_of (by decide +kernel) (Nat.le_of_ble_eq_true rfl) ?_
  show xW x (xRm 2, RX11, cX11_power, 5, (some .long), fun _ _ => True) (xQl x Q) 0 [(0, .ref (x.2.2.1 + 260)), (1, iV p1)] [] μ
  refine x_ran (fun n0 => ?_)
  have h := h n0 hp1
  refine x_lconst (v := 1) dX11_power_0 (by decide) ?_
  refine x_lstore_n [(2, jV 1), (0, .ref (x.2.2.1 + 260)), (1, iV p1)] dX11_power_1 (show 2 + 1 < 5 by decide) rfl ?_
  refine x_iconst dX11_power_2 ?_
  refine x_istore [(4, iV 0), (2, jV 1), (0, .ref (x.2.2.1 + 260)), (1, iV p1)] dX11_power_3 (show 4 < 5 by decide) rfl ?_
  refine x_sub [2, 3, 1, 0] rfl ?_
  refine x_loop2 (fun l2_1 l4_2 => [(0, .ref (x.2.2.1 + 260)), (1, iV p1), (2, jV l2_1), (4, iV l4_2)]) h (fun J5 l2_1 l4_2 μ3 hJ5 h n4 => ?_)
  refine x_iload 3 rfl dX11_power_5 ?_
  refine x_iload_n 1 rfl dX11_power_7 ?_
  obtain ⟨c5, h⟩ := h
  refine x_icmpge (tgt := 25) c5 hp1 dX11_power_8 (by decide) (fun k6 => ?_) (fun k6 => ?_)
  · have h := h.1 k6
    refine x_lload_n 2 rfl dX11_power_25 ?_
    obtain ⟨c7, h⟩ := h
    exact x_lret h c7 rfl dX11_power_26
  · have h := h.2 k6
    refine x_lload_n 2 rfl dX11_power_11 ?_
    refine x_aload_n 0 rfl dX11_power_12 ?_
    refine x_callVi (As := []) (rest := [jV l2_1]) cal_X11_weights ins_X11_weights sel_X11_weights ly260 (by decide) rfl (xX11_weights x  _ _  h) rfl ml_X11_359 (xRoom (Nat.le_of_ble_eq_true rfl)) (Nat.le_of_ble_eq_true rfl) dX11_power_13 (fun r10 μ8 i11 n9 h => ?_)
    have h := h i11 n9
    refine x_i2l i11 dX11_power_16 ?_
    refine x_lmul dX11_power_17 ?_
    refine x_lstore_n [(2, jV (l2_1 * r10)), (0, .ref (x.2.2.1 + 260)), (1, iV p1), (4, iV l4_2)] dX11_power_18 (show 2 + 1 < 5 by decide) rfl ?_
    refine x_iinc 3 rfl [(4, iV (l4_2 + 1)), (2, jV (l2_1 * r10)), (0, .ref (x.2.2.1 + 260)), (1, iV p1)] dX11_power_19 (show 4 < 5 by decide) rfl ?_
    refine x_goto (tgt := 5) dX11_power_22 (by decide) ?_
    exact x_sub [2, 3, 1, 0] rfl (hJ5 _ _ _ h)
set_option maxRecDepth 100000 in
set_option maxHeartbeats 4000000 in
theorem xX11_hopeOf_body (x : xX) (F : Int → Int → xM → (Int → xM → Prop) → Prop) (p1 : Int) (p2 : Int) (μ : xM) (Q : Int → xM → Prop) (hp1 : xIn p1) (hp2 : xIn p2) (dF : Nat) (hF : ∀ (q0 q1 : Int) (μ : xM) (Q : Int → xM → Prop), xIn q0 → xIn q1 → F q0 q1 μ Q → xMet x dF yX11_hopeOf cX11_hopeOf 14 (some .long) [.ref (x.2.2.1 + 260), iV q0, iV q1] μ (xQl x Q)) (dM : Nat) (hdM : 4 ≤ dM) (hdF : dF + 2 ≤ dM) (h : tX11_hopeOf_body F p1 p2 μ Q) : xMet x dM yX11_hopeOf cX11_hopeOf 14 (some .long) [.ref (x.2.2.1 + 260), iV p1, iV p2] μ (xQl x Q) := by
  refine xMet_of (by decide +kernel) (Nat.le_of_ble_eq_true rfl) ?_
  show xW x (xRm dM, RX11, cX11_hopeOf, 14, (some .long), fun _ _ => True) (xQl x Q) 0 [(0, .ref (x.2.2.1 + 260)), (1, iV p1), (2, iV p2)] [] μ
  refine x_ran (fun n0 => ?_)
  have h := h n0 hp1 hp2
  refine x_iload_n 2 rfl dX11_hopeOf_0 ?_
  refine x_ifne (tgt := 6) hp2  dX11_hopeOf_1 (by decide) (fun k1 => ?_) (fun k1 => ?_)
  · have h := h.1 k1
    refine x_sipush dX11_hopeOf_6 (by decide) ?_
    refine x_iload_n 2 rfl dX11_hopeOf_9 ?_
    refine x_iconst dX11_hopeOf_10 ?_
    refine x_isub dX11_hopeOf_11 ?_
    refine x_imul dX11_hopeOf_12 ?_
    refine x_iload_n 1 rfl dX11_hopeOf_13 ?_
    refine x_iadd dX11_hopeOf_14 ?_
    refine x_istore_n [(3, iV ((15625 * (p2 - 1)) + p1)), (0, .ref (x.2.2.1 + 260)), (1, iV p1), (2, iV p2)] dX11_hopeOf_15 (show 3 < 14 by decide) rfl ?_
    refine x_aload_n 1 rfl dX11_hopeOf_16 ?_
    refine x_getR (j := 37) (r := 279) ly260 (by decide) rfl rfl (by decide) inT11 fl_X11_70 dX11_hopeOf_17 ?_
    refine x_iload_n 0 rfl dX11_hopeOf_20 ?_
    obtain ⟨c2, h⟩ := h
    refine x_lald ly279 c2.1 c2.2 (xIb (n := 62500) c2 (by decide)) (by decide) dX11_hopeOf_21 (fun r3 => ?_)
    refine x_lconst (v := 0) dX11_hopeOf_22 (by decide) ?_
    refine x_lcmp r3 ⟨by decide, by decide⟩ dX11_hopeOf_23 ?_
    refine x_iflt (tgt := 34) (xIcmp _ _)  dX11_hopeOf_24 (by decide) (fun k4 => ?_) (fun k4 => ?_)
    · have h := h.1 k4
      refine x_lconst (v := 0) dX11_hopeOf_34 (by decide) ?_
      refine x_lstore [(4, jV 0), (3, iV ((15625 * (p2 - 1)) + p1)), (0, .ref (x.2.2.1 + 260)), (1, iV p1), (2, iV p2)] dX11_hopeOf_35 (show 4 + 1 < 14 by decide) rfl ?_
      refine x_iconst dX11_hopeOf_37 ?_
      refine x_istore [(6, iV 0), (4, jV 0), (3, iV ((15625 * (p2 - 1)) + p1)), (0, .ref (x.2.2.1 + 260)), (1, iV p1), (2, iV p2)] dX11_hopeOf_38 (show 6 < 14 by decide) rfl ?_
      refine x_sub [3, 4, 5, 2, 1, 0] rfl ?_
      refine x_loop2 (fun l4_5 l6_6 => [(0, .ref (x.2.2.1 + 260)), (1, iV p1), (2, iV p2), (3, iV ((15625 * (p2 - 1)) + p1)), (4, jV l4_5), (6, iV l6_6)]) h (fun J40 l4_5 l6_6 μ7 hJ40 h n8 => ?_)
      refine x_iload 5 rfl dX11_hopeOf_40 ?_
      refine x_aload_n 0 rfl dX11_hopeOf_42 ?_
      refine x_getR (j := 15) (r := 263) ly260 (by decide) rfl rfl (by decide) inT11 fl_X11_20 dX11_hopeOf_43 ?_
      refine x_iconst dX11_hopeOf_46 ?_
      refine x_iald ly263 (by decide) (by decide) ⟨by decide, by decide⟩ (by decide) dX11_hopeOf_47 (fun r9 => ?_)
      obtain ⟨c10, h⟩ := h
      refine x_icmpge (tgt := 193) c10 r9 dX11_hopeOf_48 (by decide) (fun k11 => ?_) (fun k11 => ?_)
      · have h := h.1 k11
        refine x_aload_n 0 rfl dX11_hopeOf_193 ?_
        refine x_getR (j := 37) (r := 279) ly260 (by decide) rfl rfl (by decide) inT11 fl_X11_70 dX11_hopeOf_194 ?_
        refine x_iload_n 3 rfl dX11_hopeOf_197 ?_
        refine x_lload 4 rfl dX11_hopeOf_198 ?_
        obtain ⟨c12, h⟩ := h
        obtain ⟨c13, h⟩ := h
        refine x_last ly279 c12.1 c12.2 (xIb (n := 62500) c12 (by decide)) c13 (by decide) (by decide) dX11_hopeOf_200 (fun μ14 e16 n15 => ?_)
        have h := h μ14 e16 n15
        refine x_lload 4 rfl dX11_hopeOf_201 ?_
        exact x_lret h c13 rfl dX11_hopeOf_203
      · have h := h.2 k11
        refine x_aload_n 0 rfl dX11_hopeOf_51 ?_
        refine x_iload_n 1 rfl dX11_hopeOf_52 ?_
        refine x_iload_n 2 rfl dX11_hopeOf_53 ?_
        refine x_iconst dX11_hopeOf_54 ?_
        refine x_isub dX11_hopeOf_55 ?_
        obtain ⟨c17, h⟩ := h
        refine x_callVl (As := [iV p1, iV (p2 - 1)]) (rest := []) cal_X11_hopeOf ins_X11_hopeOf sel_X11_hopeOf ly260 (by decide) rfl (hF p1 (p2 - 1) _ _ hp1 c17 h) rfl ml_X11_362 (xRoom (show dF + 1 ≤ dM by omega)) (Nat.le_of_ble_eq_true rfl) dX11_hopeOf_56 (fun r20 μ18 i21 n19 h => ?_)
        have h := h i21 n19
        refine x_lstore [(7, jV r20), (0, .ref (x.2.2.1 + 260)), (1, iV p1), (2, iV p2), (3, iV ((15625 * (p2 - 1)) + p1)), (4, jV l4_5), (6, iV l6_6)] dX11_hopeOf_59 (show 7 + 1 < 14 by decide) rfl ?_
        refine x_iconst dX11_hopeOf_61 ?_
        refine x_istore [(9, iV 0), (7, jV r20), (0, .ref (x.2.2.1 + 260)), (1, iV p1), (2, iV p2), (3, iV ((15625 * (p2 - 1)) + p1)), (4, jV l4_5), (6, iV l6_6)] dX11_hopeOf_62 (show 9 < 14 by decide) rfl ?_
        refine x_sub [2, 3, 4, 5, 6, 7, 1, 0] rfl ?_
        refine x_loop2 (fun l7_22 l9_23 => [(0, .ref (x.2.2.1 + 260)), (1, iV p1), (2, iV p2), (3, iV ((15625 * (p2 - 1)) + p1)), (4, jV l4_5), (6, iV l6_6), (7, jV l7_22), (9, iV l9_23)]) h (fun J64 l7_22 l9_23 μ24 hJ64 h n25 => ?_)
        refine x_iload 7 rfl dX11_hopeOf_64 ?_
        refine x_aload_n 0 rfl dX11_hopeOf_66 ?_
        refine x_getR (j := 15) (r := 263) ly260 (by decide) rfl rfl (by decide) inT11 fl_X11_20 dX11_hopeOf_67 ?_
        refine x_iconst dX11_hopeOf_70 ?_
        refine x_iald ly263 (by decide) (by decide) ⟨by decide, by decide⟩ (by decide) dX11_hopeOf_71 (fun r26 => ?_)
        obtain ⟨c27, h⟩ := h
        refine x_icmpge (tgt := 167) c27 r26 dX11_hopeOf_72 (by decide) (fun k28 => ?_) (fun k28 => ?_)
        · have h := h.1 k28
          refine x_lload 4 rfl dX11_hopeOf_167 ?_
          refine x_aload_n 0 rfl dX11_hopeOf_169 ?_
          refine x_getR (j := 15) (r := 263) ly260 (by decide) rfl rfl (by decide) inT11 fl_X11_20 dX11_hopeOf_170 ?_
          refine x_sipush dX11_hopeOf_173 (by decide) ?_
          refine x_iload 5 rfl dX11_hopeOf_176 ?_
          refine x_iadd dX11_hopeOf_178 ?_
          obtain ⟨c29, h⟩ := h
          refine x_iald ly263 c29.1 c29.2 (xIb (n := 322) c29 (by decide)) (by decide) dX11_hopeOf_179 (fun r30 => ?_)
          refine x_i2l r30 dX11_hopeOf_180 ?_
          refine x_lload 6 rfl dX11_hopeOf_181 ?_
          refine x_lmul dX11_hopeOf_183 ?_
          refine x_ladd dX11_hopeOf_184 ?_
          refine x_lstore [(4, jV (l4_5 + ((μ24 263 ((309 + l6_6).toNat)) * l7_22))), (0, .ref (x.2.2.1 + 260)), (1, iV p1), (2, iV p2), (3, iV ((15625 * (p2 - 1)) + p1)), (6, iV l6_6), (7, jV l7_22), (9, iV l9_23)] dX11_hopeOf_185 (show 4 + 1 < 14 by decide) rfl ?_
          refine x_iinc 5 rfl [(6, iV (l6_6 + 1)), (4, jV (l4_5 + ((μ24 263 ((309 + l6_6).toNat)) * l7_22))), (0, .ref (x.2.2.1 + 260)), (1, iV p1), (2, iV p2), (3, iV ((15625 * (p2 - 1)) + p1)), (7, jV l7_22), (9, iV l9_23)] dX11_hopeOf_187 (show 6 < 14 by decide) rfl ?_
          refine x_goto (tgt := 40) dX11_hopeOf_190 (by decide) ?_
          exact x_sub [2, 3, 4, 5, 1, 0] rfl (hJ40 _ _ _ h)
        · have h := h.2 k28
          refine x_iconst dX11_hopeOf_75 ?_
          refine x_istore [(10, iV 0), (0, .ref (x.2.2.1 + 260)), (1, iV p1), (2, iV p2), (3, iV ((15625 * (p2 - 1)) + p1)), (4, jV l4_5), (6, iV l6_6), (7, jV l7_22), (9, iV l9_23)] dX11_hopeOf_76 (show 10 < 14 by decide) rfl ?_
          refine x_sub [1, 2, 3, 4, 5, 6, 7, 8, 0] rfl ?_
          refine x_loop2 (fun l7_31 l10_32 => [(0, .ref (x.2.2.1 + 260)), (1, iV p1), (2, iV p2), (3, iV ((15625 * (p2 - 1)) + p1)), (4, jV l4_5), (6, iV l6_6), (7, jV l7_31), (9, iV l9_23), (10, iV l10_32)]) h (fun J78 l7_31 l10_32 μ33 hJ78 h n34 => ?_)
          refine x_iload 8 rfl dX11_hopeOf_78 ?_
          refine x_aload_n 0 rfl dX11_hopeOf_80 ?_
          refine x_getR (j := 15) (r := 263) ly260 (by decide) rfl rfl (by decide) inT11 fl_X11_20 dX11_hopeOf_81 ?_
          refine x_iconst dX11_hopeOf_84 ?_
          refine x_iald ly263 (by decide) (by decide) ⟨by decide, by decide⟩ (by decide) dX11_hopeOf_85 (fun r35 => ?_)
          obtain ⟨c36, h⟩ := h
          refine x_icmpge (tgt := 161) c36 r35 dX11_hopeOf_86 (by decide) (fun k37 => ?_) (fun k37 => ?_)
          · have h := h.1 k37
            refine x_iinc 7 rfl [(9, iV (l9_23 + 1)), (0, .ref (x.2.2.1 + 260)), (1, iV p1), (2, iV p2), (3, iV ((15625 * (p2 - 1)) + p1)), (4, jV l4_5), (6, iV l6_6), (7, jV l7_31), (10, iV l10_32)] dX11_hopeOf_161 (show 9 < 14 by decide) rfl ?_
            refine x_goto (tgt := 64) dX11_hopeOf_164 (by decide) ?_
            exact x_sub [1, 2, 3, 4, 5, 6, 7, 0] rfl (hJ64 _ _ _ h)
          · have h := h.2 k37
            refine x_aload_n 0 rfl dX11_hopeOf_89 ?_
            refine x_iload_n 1 rfl dX11_hopeOf_90 ?_
            refine x_iload 7 rfl dX11_hopeOf_91 ?_
            refine x_iload 8 rfl dX11_hopeOf_93 ?_
            refine x_aload_n 0 rfl dX11_hopeOf_95 ?_
            refine x_getR (j := 15) (r := 263) ly260 (by decide) rfl rfl (by decide) inT11 fl_X11_20 dX11_hopeOf_96 ?_
            refine x_sipush dX11_hopeOf_99 (by decide) ?_
            refine x_iload 5 rfl dX11_hopeOf_102 ?_
            refine x_iadd dX11_hopeOf_104 ?_
            obtain ⟨c38, h⟩ := h
            refine x_iald ly263 c38.1 c38.2 (xIb (n := 322) c38 (by decide)) (by decide) dX11_hopeOf_105 (fun r39 => ?_)
            obtain ⟨c40, h⟩ := h
            refine x_callVi (As := [iV p1, iV l9_23, iV l10_32, iV (μ33 263 ((303 + l6_6).toNat))]) (rest := []) cal_X11_wordAfter ins_X11_wordAfter sel_X11_wordAfter ly260 (by decide) rfl (xX11_wordAfter x p1 l9_23 l10_32 (μ33 263 ((303 + l6_6).toNat)) _ _ hp1 c40 c36 r39 h) rfl ml_X11_325 (xRoom (show 3 + 1 ≤ dM by omega)) (Nat.le_of_ble_eq_true rfl) dX11_hopeOf_106 (fun r43 μ41 i44 n42 h => ?_)
            have h := h i44 n42
            refine x_istore [(11, iV r43), (0, .ref (x.2.2.1 + 260)), (1, iV p1), (2, iV p2), (3, iV ((15625 * (p2 - 1)) + p1)), (4, jV l4_5), (6, iV l6_6), (7, jV l7_31), (9, iV l9_23), (10, iV l10_32)] dX11_hopeOf_109 (show 11 < 14 by decide) rfl ?_
            refine x_iload 0 rfl dX11_hopeOf_111 ?_
            refine x_ifge (tgt := 119) i44  dX11_hopeOf_113 (by decide) (fun k45 => ?_) (fun k45 => ?_)
            · have h := h.1 k45
              refine x_aload_n 1 rfl dX11_hopeOf_119 ?_
              refine x_iload_n 3 rfl dX11_hopeOf_120 ?_
              refine x_iconst dX11_hopeOf_121 ?_
              refine x_isub dX11_hopeOf_122 ?_
              obtain ⟨c46, h⟩ := h
              refine x_callVl (As := [iV (p2 - 1)]) (rest := []) cal_X11_power ins_X11_power sel_X11_power ly260 (by decide) rfl (xX11_power x (p2 - 1) _ _ c46 h) rfl ml_X11_366 (xRoom (show 2 + 1 ≤ dM by omega)) (Nat.le_of_ble_eq_true rfl) dX11_hopeOf_123 (fun r49 μ47 i50 n48 h => ?_)
              have h := h i50 n48
              refine x_aload_n 1 rfl dX11_hopeOf_126 ?_
              refine x_iload 0 rfl dX11_hopeOf_127 ?_
              refine x_iload_n 3 rfl dX11_hopeOf_129 ?_
              refine x_iconst dX11_hopeOf_130 ?_
              refine x_isub dX11_hopeOf_131 ?_
              refine x_callVl (As := [iV r43, iV (p2 - 1)]) (rest := [jV r49]) cal_X11_hopeOf ins_X11_hopeOf sel_X11_hopeOf ly260 (by decide) rfl (hF r43 (p2 - 1) _ _ i44 c46 h) rfl ml_X11_362 (xRoom (show dF + 1 ≤ dM by omega)) (Nat.le_of_ble_eq_true rfl) dX11_hopeOf_132 (fun r53 μ51 i54 n52 h => ?_)
              have h := h i54 n52
              refine x_ladd dX11_hopeOf_135 ?_
              refine x_lstore [(12, jV (r49 + r53)), (11, iV r43), (0, .ref (x.2.2.1 + 260)), (1, iV p1), (2, iV p2), (3, iV ((15625 * (p2 - 1)) + p1)), (4, jV l4_5), (6, iV l6_6), (7, jV l7_31), (9, iV l9_23), (10, iV l10_32)] dX11_hopeOf_136 (show 12 + 1 < 14 by decide) rfl ?_
              refine x_lload 0 rfl dX11_hopeOf_138 ?_
              refine x_lload 8 rfl dX11_hopeOf_140 ?_
              obtain ⟨c55, h⟩ := h
              obtain ⟨c56, h⟩ := h
              refine x_lcmp c55 c56 dX11_hopeOf_142 ?_
              refine x_ifle (tgt := 151) (xIcmp _ _)  dX11_hopeOf_143 (by decide) (fun k57 => ?_) (fun k57 => ?_)
              · have h := h.1 k57
                refine x_lload 8 rfl dX11_hopeOf_151 ?_
                refine x_lstore [(7, jV l7_31), (12, jV (r49 + r53)), (11, iV r43), (0, .ref (x.2.2.1 + 260)), (1, iV p1), (2, iV p2), (3, iV ((15625 * (p2 - 1)) + p1)), (4, jV l4_5), (6, iV l6_6), (9, iV l9_23), (10, iV l10_32)] dX11_hopeOf_153 (show 7 + 1 < 14 by decide) rfl ?_
                refine x_iinc 10 rfl [(10, iV (l10_32 + 1)), (7, jV l7_31), (12, jV (r49 + r53)), (11, iV r43), (0, .ref (x.2.2.1 + 260)), (1, iV p1), (2, iV p2), (3, iV ((15625 * (p2 - 1)) + p1)), (4, jV l4_5), (6, iV l6_6), (9, iV l9_23)] dX11_hopeOf_155 (show 10 < 14 by decide) rfl ?_
                refine x_goto (tgt := 78) dX11_hopeOf_158 (by decide) ?_
                exact x_sub [4, 5, 6, 7, 8, 9, 1, 10, 0] rfl (hJ78 _ _ _ h)
              · have h := h.2 k57
                refine x_lload 0 rfl dX11_hopeOf_146 ?_
                refine x_goto (tgt := 153) dX11_hopeOf_148 (by decide) ?_
                refine x_lstore [(7, jV (r49 + r53)), (12, jV (r49 + r53)), (11, iV r43), (0, .ref (x.2.2.1 + 260)), (1, iV p1), (2, iV p2), (3, iV ((15625 * (p2 - 1)) + p1)), (4, jV l4_5), (6, iV l6_6), (9, iV l9_23), (10, iV l10_32)] dX11_hopeOf_153 (show 7 + 1 < 14 by decide) rfl ?_
                refine x_iinc 10 rfl [(10, iV (l10_32 + 1)), (7, jV (r49 + r53)), (12, jV (r49 + r53)), (11, iV r43), (0, .ref (x.2.2.1 + 260)), (1, iV p1), (2, iV p2), (3, iV ((15625 * (p2 - 1)) + p1)), (4, jV l4_5), (6, iV l6_6), (9, iV l9_23)] dX11_hopeOf_155 (show 10 < 14 by decide) rfl ?_
                refine x_goto (tgt := 78) dX11_hopeOf_158 (by decide) ?_
                exact x_sub [4, 5, 6, 7, 8, 9, 1, 10, 0] rfl (hJ78 _ _ _ h)
            · have h := h.2 k45
              refine x_goto (tgt := 155) dX11_hopeOf_116 (by decide) ?_
              refine x_iinc 9 rfl [(10, iV (l10_32 + 1)), (11, iV r43), (0, .ref (x.2.2.1 + 260)), (1, iV p1), (2, iV p2), (3, iV ((15625 * (p2 - 1)) + p1)), (4, jV l4_5), (6, iV l6_6), (7, jV l7_31), (9, iV l9_23)] dX11_hopeOf_155 (show 10 < 14 by decide) rfl ?_
              refine x_goto (tgt := 78) dX11_hopeOf_158 (by decide) ?_
              exact x_sub [2, 3, 4, 5, 6, 7, 8, 9, 0] rfl (hJ78 _ _ _ h)
    · have h := h.2 k4
      refine x_aload_n 1 rfl dX11_hopeOf_27 ?_
      refine x_getR (j := 37) (r := 279) ly260 (by decide) rfl rfl (by decide) inT11 fl_X11_70 dX11_hopeOf_28 ?_
      refine x_iload_n 0 rfl dX11_hopeOf_31 ?_
      refine x_lald ly279 c2.1 c2.2 (xIb (n := 62500) c2 (by decide)) (by decide) dX11_hopeOf_32 (fun r58 => ?_)
      exact x_lret h r58 rfl dX11_hopeOf_33
  · have h := h.2 k1
    refine x_lconst (v := 0) dX11_hopeOf_4 (by decide) ?_
    exact x_lret h ⟨by decide, by decide⟩ rfl dX11_hopeOf_5
theorem xX11_hopeOf (x : xX) : ∀ (n : Nat) (p1 : Int) (p2 : Int) (μ : xM) (Q : Int → xM → Prop) (hp1 : xIn p1) (hp2 : xIn p2) (h : tX11_hopeOf n p1 p2 μ Q), xMet x (4 + 2 * n) yX11_hopeOf cX11_hopeOf 14 (some .long) [.ref (x.2.2.1 + 260), iV p1, iV p2] μ (xQl x Q)
  | 0, _, _, _, _, _, _, h => h.elim
  | n + 1, p1, p2, μ, Q, hp1, hp2, h => xX11_hopeOf_body x (tX11_hopeOf n) p1 p2 μ Q hp1 hp2 (4 + 2 * n) (fun p11 p21 μ Q hp11 hp21 h => xX11_hopeOf x n p11 p21 μ Q hp11 hp21 h) (4 + 2 * (n + 1)) (by omega) (by omega) h
