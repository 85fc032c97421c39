set_option maxRecDepth 100000 in
set_option maxHeartbeats 4000000 in
theorem xX11_layLetters (x : xX)  (μ : xM) (Q : xM → Prop)  (h : tX11_layLetters  μ Q) : xMet x 1 yX11_layLetters cX11_layLetters 2 none [.ref (x.2.2.1 + 260)] μ (xQv x Q) := by
  refine xMet_of (by decide +kernel) (Nat.le_of_ble_eq_true rfl) ?_
  show xW x (xRm 1, RX11, cX11_layLetters, 2, none, fun _ _ => True) (xQv x Q) 0 [(0, .ref (x.2.2.1 + 260))] [] μ
  refine x_ran (fun n0 => ?_)
  have h := h n0 
  refine x_iconst dX11_layLetters_0 ?_
  refine x_istore_n [(1, iV 0), (0, .ref (x.2.2.1 + 260))] dX11_layLetters_1 (show 1 < 2 by decide) rfl ?_
  refine x_sub [1, 0] rfl ?_
  refine x_loop1 (fun l1_1 => [(0, .ref (x.2.2.1 + 260)), (1, iV l1_1)]) h (fun J2 l1_1 μ2 hJ2 h n3 => ?_)
  refine x_iload_n 1 rfl dX11_layLetters_2 ?_
  refine x_bipush dX11_layLetters_3 (by decide) ?_
  obtain ⟨c4, h⟩ := h
  refine x_icmpge (tgt := 21) c4 ⟨by decide, by decide⟩ dX11_layLetters_5 (by decide) (fun k5 => ?_) (fun k5 => ?_)
  · have h := h.1 k5
    refine x_iconst dX11_layLetters_21 ?_
    refine x_istore_n [(1, iV 0), (0, .ref (x.2.2.1 + 260))] dX11_layLetters_22 (show 1 < 2 by decide) rfl ?_
    refine x_sub [1, 0] rfl ?_
    refine x_loop1 (fun l1_6 => [(0, .ref (x.2.2.1 + 260)), (1, iV l1_6)]) h (fun J23 l1_6 μ7 hJ23 h n8 => ?_)
    refine x_iload_n 1 rfl dX11_layLetters_23 ?_
    refine x_aload_n 0 rfl dX11_layLetters_24 ?_
    refine x_getR (j := 15) (r := 263) ly260 (by decide) rfl rfl (by decide) inT11 fl_X11_20 dX11_layLetters_25 ?_
    refine x_iconst dX11_layLetters_28 ?_
    refine x_iald ly263 (by decide) (by decide) ⟨by decide, by decide⟩ (by decide) dX11_layLetters_29 (fun r9 => ?_)
    obtain ⟨c10, h⟩ := h
    refine x_icmpge (tgt := 58) c10 r9 dX11_layLetters_30 (by decide) (fun k11 => ?_) (fun k11 => ?_)
    · have h := h.1 k11
      exact x_vret h rfl dX11_layLetters_58
    · have h := h.2 k11
      refine x_aload_n 0 rfl dX11_layLetters_33 ?_
      refine x_getR (j := 26) (r := 273) ly260 (by decide) rfl rfl (by decide) inT11 fl_X11_50 dX11_layLetters_34 ?_
      refine x_aload_n 0 rfl dX11_layLetters_37 ?_
      refine x_getR (j := 15) (r := 263) ly260 (by decide) rfl rfl (by decide) inT11 fl_X11_20 dX11_layLetters_38 ?_
      refine x_sipush dX11_layLetters_41 (by decide) ?_
      refine x_iload_n 1 rfl dX11_layLetters_44 ?_
      refine x_iadd dX11_layLetters_45 ?_
      obtain ⟨c12, h⟩ := h
      refine x_iald ly263 c12.1 c12.2 (xIb (n := 322) c12 (by decide)) (by decide) dX11_layLetters_46 (fun r13 => ?_)
      refine x_dup2 rfl rfl dX11_layLetters_47 ?_
      obtain ⟨c14, h⟩ := h
      refine x_iald ly273 c14.1 c14.2 r13 (by decide) dX11_layLetters_48 (fun r15 => ?_)
      refine x_iconst dX11_layLetters_49 ?_
      refine x_iadd dX11_layLetters_50 ?_
      obtain ⟨c16, h⟩ := h
      refine x_iast ly273 c14.1 c14.2 r13 c16 (by decide) dX11_layLetters_51 (fun μ17 e19 n18 => ?_)
      have h := h μ17 e19 n18
      refine x_iinc 1 rfl [(1, iV (l1_6 + 1)), (0, .ref (x.2.2.1 + 260))] dX11_layLetters_52 (show 1 < 2 by decide) rfl ?_
      refine x_goto (tgt := 23) dX11_layLetters_55 (by decide) ?_
      exact x_sub [1, 0] rfl (hJ23 _ _ h)
  · have h := h.2 k5
    refine x_aload_n 0 rfl dX11_layLetters_8 ?_
    refine x_getR (j := 26) (r := 273) ly260 (by decide) rfl rfl (by decide) inT11 fl_X11_50 dX11_layLetters_9 ?_
    refine x_iload_n 1 rfl dX11_layLetters_12 ?_
    refine x_iconst dX11_layLetters_13 ?_
    obtain ⟨c20, h⟩ := h
    refine x_iast ly273 c20.1 c20.2 (xIb (n := 26) c20 (by decide)) ⟨by decide, by decide⟩ (by decide) dX11_layLetters_14 (fun μ21 e23 n22 => ?_)
    have h := h μ21 e23 n22
    refine x_iinc 1 rfl [(1, iV (l1_1 + 1)), (0, .ref (x.2.2.1 + 260))] dX11_layLetters_15 (show 1 < 2 by decide) rfl ?_
    refine x_goto (tgt := 2) dX11_layLetters_18 (by decide) ?_
    exact x_sub [1, 0] rfl (hJ2 _ _ h)
set_option maxRecDepth 100000 in
set_option maxHeartbeats 4000000 in
theorem xX11_addUp (x : xX)  (μ : xM) (Q : Int → xM → Prop)  (h : tX11_addUp  μ Q) : xMet x 2 yX11_addUp cX11_addUp 3 (some .boolean) [.ref (x.2.2.1 + 260)] μ (xQz x Q) := by
  refine xMet_of (by decide +kernel) (Nat.le_of_ble_eq_true rfl) ?_
  show xW x (xRm 2, RX11, cX11_addUp, 3, (some .boolean), fun _ _ => True) (xQz x Q) 0 [(0, .ref (x.2.2.1 + 260))] [] μ
  refine x_ran (fun n0 => ?_)
  have h := h n0 
  refine x_iconst dX11_addUp_0 ?_
  refine x_istore_n [(1, iV 0), (0, .ref (x.2.2.1 + 260))] dX11_addUp_1 (show 1 < 3 by decide) rfl ?_
  refine x_sub [1, 0] rfl ?_
  refine x_loop1 (fun l1_1 => [(0, .ref (x.2.2.1 + 260)), (1, iV l1_1)]) h (fun J2 l1_1 μ2 hJ2 h n3 => ?_)
  refine x_iload_n 1 rfl dX11_addUp_2 ?_
  refine x_bipush dX11_addUp_3 (by decide) ?_
  obtain ⟨c4, h⟩ := h
  refine x_icmpge (tgt := 21) c4 ⟨by decide, by decide⟩ dX11_addUp_5 (by decide) (fun k5 => ?_) (fun k5 => ?_)
  · have h := h.1 k5
    refine x_iconst dX11_addUp_21 ?_
    refine x_istore_n [(1, iV 0), (0, .ref (x.2.2.1 + 260))] dX11_addUp_22 (show 1 < 3 by decide) rfl ?_
    refine x_sub [1, 0] rfl ?_
    refine x_loop1 (fun l1_6 => [(0, .ref (x.2.2.1 + 260)), (1, iV l1_6)]) h (fun J23 l1_6 μ7 hJ23 h n8 => ?_)
    refine x_iload_n 1 rfl dX11_addUp_23 ?_
    refine x_iconst dX11_addUp_24 ?_
    obtain ⟨c9, h⟩ := h
    refine x_icmpge (tgt := 91) c9 ⟨by decide, by decide⟩ dX11_addUp_25 (by decide) (fun k10 => ?_) (fun k10 => ?_)
    · have h := h.1 k10
      refine x_iconst dX11_addUp_91 ?_
      refine x_istore_n [(1, iV 1), (0, .ref (x.2.2.1 + 260))] dX11_addUp_92 (show 1 < 3 by decide) rfl ?_
      refine x_iconst dX11_addUp_93 ?_
      refine x_istore_n [(2, iV 0), (1, iV 1), (0, .ref (x.2.2.1 + 260))] dX11_addUp_94 (show 2 < 3 by decide) rfl ?_
      refine x_sub [2, 1, 0] rfl ?_
      refine x_loop2 (fun l1_11 l2_12 => [(0, .ref (x.2.2.1 + 260)), (1, iV l1_11), (2, iV l2_12)]) h (fun J95 l1_11 l2_12 μ13 hJ95 h n14 => ?_)
      refine x_iload_n 2 rfl dX11_addUp_95 ?_
      refine x_bipush dX11_addUp_96 (by decide) ?_
      obtain ⟨c15, h⟩ := h
      refine x_icmpge (tgt := 132) c15 ⟨by decide, by decide⟩ dX11_addUp_98 (by decide) (fun k16 => ?_) (fun k16 => ?_)
      · have h := h.1 k16
        refine x_iload_n 1 rfl dX11_addUp_132 ?_
        obtain ⟨c17, h⟩ := h
        exact x_zret h c17 rfl dX11_addUp_133
      · have h := h.2 k16
        refine x_iload_n 1 rfl dX11_addUp_101 ?_
        obtain ⟨c18, h⟩ := h
        refine x_ifeq (tgt := 124) c18  dX11_addUp_102 (by decide) (fun k19 => ?_) (fun k19 => ?_)
        · have h := h.1 k19
          refine x_iconst dX11_addUp_124 ?_
          refine x_istore_n [(1, iV 0), (0, .ref (x.2.2.1 + 260)), (2, iV l2_12)] dX11_addUp_125 (show 1 < 3 by decide) rfl ?_
          refine x_iinc 2 rfl [(2, iV (l2_12 + 1)), (1, iV 0), (0, .ref (x.2.2.1 + 260))] dX11_addUp_126 (show 2 < 3 by decide) rfl ?_
          refine x_goto (tgt := 95) dX11_addUp_129 (by decide) ?_
          exact x_sub [2, 1, 0] rfl (hJ95 _ _ _ h)
        · have h := h.2 k19
          refine x_aload_n 0 rfl dX11_addUp_105 ?_
          refine x_getR (j := 25) (r := 272) ly260 (by decide) rfl rfl (by decide) inT11 fl_X11_47 dX11_addUp_106 ?_
          refine x_iload_n 2 rfl dX11_addUp_109 ?_
          obtain ⟨c20, h⟩ := h
          refine x_iald ly272 c20.1 c20.2 (xIb (n := 26) c20 (by decide)) (by decide) dX11_addUp_110 (fun r21 => ?_)
          refine x_aload_n 0 rfl dX11_addUp_111 ?_
          refine x_getR (j := 26) (r := 273) ly260 (by decide) rfl rfl (by decide) inT11 fl_X11_50 dX11_addUp_112 ?_
          refine x_iload_n 2 rfl dX11_addUp_115 ?_
          refine x_iald ly273 c20.1 c20.2 (xIb (n := 26) c20 (by decide)) (by decide) dX11_addUp_116 (fun r22 => ?_)
          refine x_icmpgt (tgt := 124) r21 r22 dX11_addUp_117 (by decide) (fun k23 => ?_) (fun k23 => ?_)
          · have h := h.1 k23
            refine x_iconst dX11_addUp_124 ?_
            refine x_istore_n [(1, iV 0), (0, .ref (x.2.2.1 + 260)), (2, iV l2_12)] dX11_addUp_125 (show 1 < 3 by decide) rfl ?_
            refine x_iinc 2 rfl [(2, iV (l2_12 + 1)), (1, iV 0), (0, .ref (x.2.2.1 + 260))] dX11_addUp_126 (show 2 < 3 by decide) rfl ?_
            refine x_goto (tgt := 95) dX11_addUp_129 (by decide) ?_
            exact x_sub [2, 1, 0] rfl (hJ95 _ _ _ h)
          · have h := h.2 k23
            refine x_iconst dX11_addUp_120 ?_
            refine x_goto (tgt := 125) dX11_addUp_121 (by decide) ?_
            refine x_istore_n [(1, iV 1), (0, .ref (x.2.2.1 + 260)), (2, iV l2_12)] dX11_addUp_125 (show 1 < 3 by decide) rfl ?_
            refine x_iinc 2 rfl [(2, iV (l2_12 + 1)), (1, iV 1), (0, .ref (x.2.2.1 + 260))] dX11_addUp_126 (show 2 < 3 by decide) rfl ?_
            refine x_goto (tgt := 95) dX11_addUp_129 (by decide) ?_
            exact x_sub [2, 1, 0] rfl (hJ95 _ _ _ h)
    · have h := h.2 k10
      refine x_aload_n 0 rfl dX11_addUp_28 ?_
      refine x_getR (j := 28) (r := 275) ly260 (by decide) rfl rfl (by decide) inT11 fl_X11_56 dX11_addUp_29 ?_
      refine x_iload_n 1 rfl dX11_addUp_32 ?_
      obtain ⟨c24, h⟩ := h
      refine x_iald ly275 c24.1 c24.2 (xIb (n := 3) c24 (by decide)) (by decide) dX11_addUp_33 (fun r25 => ?_)
      refine x_bipush dX11_addUp_34 (by decide) ?_
      refine x_icmpge (tgt := 85) r25 ⟨by decide, by decide⟩ dX11_addUp_36 (by decide) (fun k26 => ?_) (fun k26 => ?_)
      · have h := h.1 k26
        refine x_iinc 1 rfl [(1, iV (l1_6 + 1)), (0, .ref (x.2.2.1 + 260))] dX11_addUp_85 (show 1 < 3 by decide) rfl ?_
        refine x_goto (tgt := 23) dX11_addUp_88 (by decide) ?_
        exact x_sub [1, 0] rfl (hJ23 _ _ h)
      · have h := h.2 k26
        refine x_iconst dX11_addUp_39 ?_
        refine x_istore_n [(2, iV 0), (0, .ref (x.2.2.1 + 260)), (1, iV l1_6)] dX11_addUp_40 (show 2 < 3 by decide) rfl ?_
        refine x_sub [1, 2, 0] rfl ?_
        refine x_loop1 (fun l2_27 => [(0, .ref (x.2.2.1 + 260)), (1, iV l1_6), (2, iV l2_27)]) h (fun J41 l2_27 μ28 hJ41 h n29 => ?_)
        refine x_iload_n 2 rfl dX11_addUp_41 ?_
        refine x_aload_n 0 rfl dX11_addUp_42 ?_
        refine x_getR (j := 15) (r := 263) ly260 (by decide) rfl rfl (by decide) inT11 fl_X11_20 dX11_addUp_43 ?_
        refine x_bipush dX11_addUp_46 (by decide) ?_
        refine x_aload_n 0 rfl dX11_addUp_48 ?_
        refine x_getR (j := 28) (r := 275) ly260 (by decide) rfl rfl (by decide) inT11 fl_X11_56 dX11_addUp_49 ?_
        refine x_iload_n 1 rfl dX11_addUp_52 ?_
        obtain ⟨c30, h⟩ := h
        refine x_iald ly275 c30.1 c30.2 (xIb (n := 3) c30 (by decide)) (by decide) dX11_addUp_53 (fun r31 => ?_)
        refine x_iadd dX11_addUp_54 ?_
        obtain ⟨c32, h⟩ := h
        refine x_iald ly263 c32.1 c32.2 (xIb (n := 322) c32 (by decide)) (by decide) dX11_addUp_55 (fun r33 => ?_)
        obtain ⟨c34, h⟩ := h
        refine x_icmpge (tgt := 85) c34 r33 dX11_addUp_56 (by decide) (fun k35 => ?_) (fun k35 => ?_)
        · have h := h.1 k35
          refine x_iinc 1 rfl [(1, iV (l1_6 + 1)), (0, .ref (x.2.2.1 + 260)), (2, iV l2_27)] dX11_addUp_85 (show 1 < 3 by decide) rfl ?_
          refine x_goto (tgt := 23) dX11_addUp_88 (by decide) ?_
          exact x_sub [1, 0] rfl (hJ23 _ _ h)
        · have h := h.2 k35
          refine x_aload_n 0 rfl dX11_addUp_59 ?_
          refine x_getR (j := 25) (r := 272) ly260 (by decide) rfl rfl (by decide) inT11 fl_X11_47 dX11_addUp_60 ?_
          refine x_aload_n 0 rfl dX11_addUp_63 ?_
          refine x_aload_n 0 rfl dX11_addUp_64 ?_
          refine x_getR (j := 28) (r := 275) ly260 (by decide) rfl rfl (by decide) inT11 fl_X11_56 dX11_addUp_65 ?_
          refine x_iload_n 1 rfl dX11_addUp_68 ?_
          refine x_iald ly275 c30.1 c30.2 (xIb (n := 3) c30 (by decide)) (by decide) dX11_addUp_69 (fun r36 => ?_)
          refine x_iload_n 2 rfl dX11_addUp_70 ?_
          refine x_callVi (As := [iV (μ28 275 l1_6.toNat), iV l2_27]) (rest := [.ref (x.2.2.1 + 272)]) cal_X11_letterAt ins_X11_letterAt sel_X11_letterAt ly260 (by decide) rfl (xX11_letterAt x (μ28 275 l1_6.toNat) l2_27 _ _ r36 c34 h) rfl ml_X11_243 (xRoom (Nat.le_of_ble_eq_true rfl)) (Nat.le_of_ble_eq_true rfl) dX11_addUp_71 (fun r39 μ37 i40 n38 h => ?_)
          have h := h i40 n38
          refine x_dup2 rfl rfl dX11_addUp_74 ?_
          obtain ⟨c41, h⟩ := h
          refine x_iald ly272 c41.1 c41.2 i40 (by decide) dX11_addUp_75 (fun r42 => ?_)
          refine x_iconst dX11_addUp_76 ?_
          refine x_iadd dX11_addUp_77 ?_
          obtain ⟨c43, h⟩ := h
          refine x_iast ly272 c41.1 c41.2 i40 c43 (by decide) dX11_addUp_78 (fun μ44 e46 n45 => ?_)
          have h := h μ44 e46 n45
          refine x_iinc 2 rfl [(2, iV (l2_27 + 1)), (0, .ref (x.2.2.1 + 260)), (1, iV l1_6)] dX11_addUp_79 (show 2 < 3 by decide) rfl ?_
          refine x_goto (tgt := 41) dX11_addUp_82 (by decide) ?_
          exact x_sub [1, 2, 0] rfl (hJ41 _ _ h)
  · have h := h.2 k5
    refine x_aload_n 0 rfl dX11_addUp_8 ?_
    refine x_getR (j := 25) (r := 272) ly260 (by decide) rfl rfl (by decide) inT11 fl_X11_47 dX11_addUp_9 ?_
    refine x_iload_n 1 rfl dX11_addUp_12 ?_
    refine x_iconst dX11_addUp_13 ?_
    obtain ⟨c47, h⟩ := h
    refine x_iast ly272 c47.1 c47.2 (xIb (n := 26) c47 (by decide)) ⟨by decide, by decide⟩ (by decide) dX11_addUp_14 (fun μ48 e50 n49 => ?_)
    have h := h μ48 e50 n49
    refine x_iinc 1 rfl [(1, iV (l1_1 + 1)), (0, .ref (x.2.2.1 + 260))] dX11_addUp_15 (show 1 < 3 by decide) rfl ?_
    refine x_goto (tgt := 2) dX11_addUp_18 (by decide) ?_
    exact x_sub [1, 0] rfl (hJ2 _ _ h)
set_option maxRecDepth 100000 in
set_option maxHeartbeats 4000000 in
theorem xX11_lettersOf (x : xX)  (μ : xM) (Q : Int → xM → Prop)  (h : tX11_lettersOf  μ Q) : xMet x 1 yX11_lettersOf cX11_lettersOf 3 (some .int) [.ref (x.2.2.1 + 260)] μ (xQi x Q) := by
  refine xMet_of (by decide +kernel) (Nat.le_of_ble_eq_true rfl) ?_
  show xW x (xRm 1, RX11, cX11_lettersOf, 3, (some .int), fun _ _ => True) (xQi x Q) 0 [(0, .ref (x.2.2.1 + 260))] [] μ
  refine x_ran (fun n0 => ?_)
  have h := h n0 
  refine x_iconst dX11_lettersOf_0 ?_
  refine x_istore_n [(1, iV 0), (0, .ref (x.2.2.1 + 260))] dX11_lettersOf_1 (show 1 < 3 by decide) rfl ?_
  refine x_iconst dX11_lettersOf_2 ?_
  refine x_istore_n [(2, iV 0), (1, iV 0), (0, .ref (x.2.2.1 + 260))] dX11_lettersOf_3 (show 2 < 3 by decide) rfl ?_
  refine x_sub [2, 1, 0] rfl ?_
  refine x_loop2 (fun l1_1 l2_2 => [(0, .ref (x.2.2.1 + 260)), (1, iV l1_1), (2, iV l2_2)]) h (fun J4 l1_1 l2_2 μ3 hJ4 h n4 => ?_)
  refine x_iload_n 2 rfl dX11_lettersOf_4 ?_
  refine x_iconst dX11_lettersOf_5 ?_
  obtain ⟨c5, h⟩ := h
  refine x_icmpge (tgt := 47) c5 ⟨by decide, by decide⟩ dX11_lettersOf_6 (by decide) (fun k6 => ?_) (fun k6 => ?_)
  · have h := h.1 k6
    refine x_iload_n 1 rfl dX11_lettersOf_47 ?_
    obtain ⟨c7, h⟩ := h
    exact x_iret h c7 rfl dX11_lettersOf_48
  · have h := h.2 k6
    refine x_iload_n 1 rfl dX11_lettersOf_9 ?_
    refine x_aload_n 0 rfl dX11_lettersOf_10 ?_
    refine x_getR (j := 28) (r := 275) ly260 (by decide) rfl rfl (by decide) inT11 fl_X11_56 dX11_lettersOf_11 ?_
    refine x_iload_n 2 rfl dX11_lettersOf_14 ?_
    obtain ⟨c8, h⟩ := h
    refine x_iald ly275 c8.1 c8.2 (xIb (n := 3) c8 (by decide)) (by decide) dX11_lettersOf_15 (fun r9 => ?_)
    refine x_bipush dX11_lettersOf_16 (by decide) ?_
    refine x_icmpge (tgt := 38) r9 ⟨by decide, by decide⟩ dX11_lettersOf_18 (by decide) (fun k10 => ?_) (fun k10 => ?_)
    · have h := h.1 k10
      refine x_iconst dX11_lettersOf_38 ?_
      refine x_iadd dX11_lettersOf_39 ?_
      refine x_istore_n [(1, iV (l1_1 + 0)), (0, .ref (x.2.2.1 + 260)), (2, iV l2_2)] dX11_lettersOf_40 (show 1 < 3 by decide) rfl ?_
      refine x_iinc 2 rfl [(2, iV (l2_2 + 1)), (1, iV (l1_1 + 0)), (0, .ref (x.2.2.1 + 260))] dX11_lettersOf_41 (show 2 < 3 by decide) rfl ?_
      refine x_goto (tgt := 4) dX11_lettersOf_44 (by decide) ?_
      exact x_sub [2, 1, 0] rfl (hJ4 _ _ _ h)
    · have h := h.2 k10
      refine x_aload_n 0 rfl dX11_lettersOf_21 ?_
      refine x_getR (j := 15) (r := 263) ly260 (by decide) rfl rfl (by decide) inT11 fl_X11_20 dX11_lettersOf_22 ?_
      refine x_bipush dX11_lettersOf_25 (by decide) ?_
      refine x_aload_n 0 rfl dX11_lettersOf_27 ?_
      refine x_getR (j := 28) (r := 275) ly260 (by decide) rfl rfl (by decide) inT11 fl_X11_56 dX11_lettersOf_28 ?_
      refine x_iload_n 2 rfl dX11_lettersOf_31 ?_
      refine x_iald ly275 c8.1 c8.2 (xIb (n := 3) c8 (by decide)) (by decide) dX11_lettersOf_32 (fun r11 => ?_)
      refine x_iadd dX11_lettersOf_33 ?_
      obtain ⟨c12, h⟩ := h
      refine x_iald ly263 c12.1 c12.2 (xIb (n := 322) c12 (by decide)) (by decide) dX11_lettersOf_34 (fun r13 => ?_)
      refine x_goto (tgt := 39) dX11_lettersOf_35 (by decide) ?_
      refine x_iadd dX11_lettersOf_39 ?_
      refine x_istore_n [(1, iV (l1_1 + (μ3 263 ((7 + (μ3 275 l2_2.toNat)).toNat)))), (0, .ref (x.2.2.1 + 260)), (2, iV l2_2)] dX11_lettersOf_40 (show 1 < 3 by decide) rfl ?_
      refine x_iinc 2 rfl [(2, iV (l2_2 + 1)), (1, iV (l1_1 + (μ3 263 ((7 + (μ3 275 l2_2.toNat)).toNat)))), (0, .ref (x.2.2.1 + 260))] dX11_lettersOf_41 (show 2 < 3 by decide) rfl ?_
      refine x_goto (tgt := 4) dX11_lettersOf_44 (by decide) ?_
      exact x_sub [2, 1, 0] rfl (hJ4 _ _ _ h)
set_option maxRecDepth 100000 in
set_option maxHeartbeats 4000000 in
theorem xX11_worthOf (x : xX)  (μ : xM) (Q : Int → xM → Prop)  (h : tX11_worthOf  μ Q) : xMet x 1 yX11_worthOf cX11_worthOf 3 (some .int) [.ref (x.2.2.1 + 260)] μ (xQi x Q) := by
  refine xMet_of (by decide +kernel) (Nat.le_of_ble_eq_true rfl) ?_
  show xW x (xRm 1, RX11, cX11_worthOf, 3, (some .int), fun _ _ => True) (xQi x Q) 0 [(0, .ref (x.2.2.1 + 260))] [] μ
  refine x_ran (fun n0 => ?_)
  have h := h n0 
  refine x_iconst dX11_worthOf_0 ?_
  refine x_istore_n [(1, iV 0), (0, .ref (x.2.2.1 + 260))] dX11_worthOf_1 (show 1 < 3 by decide) rfl ?_
  refine x_iconst dX11_worthOf_2 ?_
  refine x_istore_n [(2, iV 0), (1, iV 0), (0, .ref (x.2.2.1 + 260))] dX11_worthOf_3 (show 2 < 3 by decide) rfl ?_
  refine x_sub [2, 1, 0] rfl ?_
  refine x_loop2 (fun l1_1 l2_2 => [(0, .ref (x.2.2.1 + 260)), (1, iV l1_1), (2, iV l2_2)]) h (fun J4 l1_1 l2_2 μ3 hJ4 h n4 => ?_)
  refine x_iload_n 2 rfl dX11_worthOf_4 ?_
  refine x_iconst dX11_worthOf_5 ?_
  obtain ⟨c5, h⟩ := h
  refine x_icmpge (tgt := 48) c5 ⟨by decide, by decide⟩ dX11_worthOf_6 (by decide) (fun k6 => ?_) (fun k6 => ?_)
  · have h := h.1 k6
    refine x_iload_n 1 rfl dX11_worthOf_48 ?_
    obtain ⟨c7, h⟩ := h
    exact x_iret h c7 rfl dX11_worthOf_49
  · have h := h.2 k6
    refine x_iload_n 1 rfl dX11_worthOf_9 ?_
    refine x_aload_n 0 rfl dX11_worthOf_10 ?_
    refine x_getR (j := 28) (r := 275) ly260 (by decide) rfl rfl (by decide) inT11 fl_X11_56 dX11_worthOf_11 ?_
    refine x_iload_n 2 rfl dX11_worthOf_14 ?_
    obtain ⟨c8, h⟩ := h
    refine x_iald ly275 c8.1 c8.2 (xIb (n := 3) c8 (by decide)) (by decide) dX11_worthOf_15 (fun r9 => ?_)
    refine x_bipush dX11_worthOf_16 (by decide) ?_
    refine x_icmpge (tgt := 39) r9 ⟨by decide, by decide⟩ dX11_worthOf_18 (by decide) (fun k10 => ?_) (fun k10 => ?_)
    · have h := h.1 k10
      refine x_iconst dX11_worthOf_39 ?_
      refine x_iadd dX11_worthOf_40 ?_
      refine x_istore_n [(1, iV (l1_1 + 0)), (0, .ref (x.2.2.1 + 260)), (2, iV l2_2)] dX11_worthOf_41 (show 1 < 3 by decide) rfl ?_
      refine x_iinc 2 rfl [(2, iV (l2_2 + 1)), (1, iV (l1_1 + 0)), (0, .ref (x.2.2.1 + 260))] dX11_worthOf_42 (show 2 < 3 by decide) rfl ?_
      refine x_goto (tgt := 4) dX11_worthOf_45 (by decide) ?_
      exact x_sub [2, 1, 0] rfl (hJ4 _ _ _ h)
    · have h := h.2 k10
      refine x_aload_n 0 rfl dX11_worthOf_21 ?_
      refine x_getR (j := 15) (r := 263) ly260 (by decide) rfl rfl (by decide) inT11 fl_X11_20 dX11_worthOf_22 ?_
      refine x_sipush dX11_worthOf_25 (by decide) ?_
      refine x_aload_n 0 rfl dX11_worthOf_28 ?_
      refine x_getR (j := 28) (r := 275) ly260 (by decide) rfl rfl (by decide) inT11 fl_X11_56 dX11_worthOf_29 ?_
      refine x_iload_n 2 rfl dX11_worthOf_32 ?_
      refine x_iald ly275 c8.1 c8.2 (xIb (n := 3) c8 (by decide)) (by decide) dX11_worthOf_33 (fun r11 => ?_)
      refine x_iadd dX11_worthOf_34 ?_
      obtain ⟨c12, h⟩ := h
      refine x_iald ly263 c12.1 c12.2 (xIb (n := 322) c12 (by decide)) (by decide) dX11_worthOf_35 (fun r13 => ?_)
      refine x_goto (tgt := 40) dX11_worthOf_36 (by decide) ?_
      refine x_iadd dX11_worthOf_40 ?_
      refine x_istore_n [(1, iV (l1_1 + (μ3 263 ((175 + (μ3 275 l2_2.toNat)).toNat)))), (0, .ref (x.2.2.1 + 260)), (2, iV l2_2)] dX11_worthOf_41 (show 1 < 3 by decide) rfl ?_
      refine x_iinc 2 rfl [(2, iV (l2_2 + 1)), (1, iV (l1_1 + (μ3 263 ((175 + (μ3 275 l2_2.toNat)).toNat)))), (0, .ref (x.2.2.1 + 260))] dX11_worthOf_42 (show 2 < 3 by decide) rfl ?_
      refine x_goto (tgt := 4) dX11_worthOf_45 (by decide) ?_
      exact x_sub [2, 1, 0] rfl (hJ4 _ _ _ h)
set_option maxRecDepth 100000 in
set_option maxHeartbeats 4000000 in
theorem xX11_wordsOf (x : xX)  (μ : xM) (Q : Int → xM → Prop)  (h : tX11_wordsOf  μ Q) : xMet x 1 yX11_wordsOf cX11_wordsOf 3 (some .int) [.ref (x.2.2.1 + 260)] μ (xQi x Q) := by
  refine xMet_of (by decide +kernel) (Nat.le_of_ble_eq_true rfl) ?_
  show xW x (xRm 1, RX11, cX11_wordsOf, 3, (some .int), fun _ _ => True) (xQi x Q) 0 [(0, .ref (x.2.2.1 + 260))] [] μ
  refine x_ran (fun n0 => ?_)
  have h := h n0 
  refine x_iconst dX11_wordsOf_0 ?_
  refine x_istore_n [(1, iV 0), (0, .ref (x.2.2.1 + 260))] dX11_wordsOf_1 (show 1 < 3 by decide) rfl ?_
  refine x_iconst dX11_wordsOf_2 ?_
  refine x_istore_n [(2, iV 0), (1, iV 0), (0, .ref (x.2.2.1 + 260))] dX11_wordsOf_3 (show 2 < 3 by decide) rfl ?_
  refine x_sub [2, 1, 0] rfl ?_
  refine x_loop2 (fun l1_1 l2_2 => [(0, .ref (x.2.2.1 + 260)), (1, iV l1_1), (2, iV l2_2)]) h (fun J4 l1_1 l2_2 μ3 hJ4 h n4 => ?_)
  refine x_iload_n 2 rfl dX11_wordsOf_4 ?_
  refine x_iconst dX11_wordsOf_5 ?_
  obtain ⟨c5, h⟩ := h
  refine x_icmpge (tgt := 34) c5 ⟨by decide, by decide⟩ dX11_wordsOf_6 (by decide) (fun k6 => ?_) (fun k6 => ?_)
  · have h := h.1 k6
    refine x_iload_n 1 rfl dX11_wordsOf_34 ?_
    obtain ⟨c7, h⟩ := h
    exact x_iret h c7 rfl dX11_wordsOf_35
  · have h := h.2 k6
    refine x_iload_n 1 rfl dX11_wordsOf_9 ?_
    refine x_aload_n 0 rfl dX11_wordsOf_10 ?_
    refine x_getR (j := 28) (r := 275) ly260 (by decide) rfl rfl (by decide) inT11 fl_X11_56 dX11_wordsOf_11 ?_
    refine x_iload_n 2 rfl dX11_wordsOf_14 ?_
    obtain ⟨c8, h⟩ := h
    refine x_iald ly275 c8.1 c8.2 (xIb (n := 3) c8 (by decide)) (by decide) dX11_wordsOf_15 (fun r9 => ?_)
    refine x_bipush dX11_wordsOf_16 (by decide) ?_
    refine x_icmpge (tgt := 25) r9 ⟨by decide, by decide⟩ dX11_wordsOf_18 (by decide) (fun k10 => ?_) (fun k10 => ?_)
    · have h := h.1 k10
      refine x_iconst dX11_wordsOf_25 ?_
      refine x_iadd dX11_wordsOf_26 ?_
      refine x_istore_n [(1, iV (l1_1 + 0)), (0, .ref (x.2.2.1 + 260)), (2, iV l2_2)] dX11_wordsOf_27 (show 1 < 3 by decide) rfl ?_
      refine x_iinc 2 rfl [(2, iV (l2_2 + 1)), (1, iV (l1_1 + 0)), (0, .ref (x.2.2.1 + 260))] dX11_wordsOf_28 (show 2 < 3 by decide) rfl ?_
      refine x_goto (tgt := 4) dX11_wordsOf_31 (by decide) ?_
      exact x_sub [2, 1, 0] rfl (hJ4 _ _ _ h)
    · have h := h.2 k10
      refine x_iconst dX11_wordsOf_21 ?_
      refine x_goto (tgt := 26) dX11_wordsOf_22 (by decide) ?_
      refine x_iadd dX11_wordsOf_26 ?_
      refine x_istore_n [(1, iV (l1_1 + 1)), (0, .ref (x.2.2.1 + 260)), (2, iV l2_2)] dX11_wordsOf_27 (show 1 < 3 by decide) rfl ?_
      refine x_iinc 2 rfl [(2, iV (l2_2 + 1)), (1, iV (l1_1 + 1)), (0, .ref (x.2.2.1 + 260))] dX11_wordsOf_28 (show 2 < 3 by decide) rfl ?_
      refine x_goto (tgt := 4) dX11_wordsOf_31 (by decide) ?_
      exact x_sub [2, 1, 0] rfl (hJ4 _ _ _ h)
set_option maxRecDepth 100000 in
set_option maxHeartbeats 4000000 in
theorem xX11_mayStand (x : xX) (p1 : Int) (p2 : Int) (μ : xM) (Q : Int → xM → Prop) (hp1 : xIn p1) (hp2 : xIn p2) (h : tX11_mayStand p1 p2 μ Q) : xMet x 2 yX11_mayStand cX11_mayStand 3 (some .boolean) [.ref (x.2.2.1 + 260), iV p1, iV p2] μ (xQz x Q) := by
  refine xMet_of (by decide +kernel) (Nat.le_of_ble_eq_true rfl) ?_
  show xW x (xRm 2, RX11, cX11_mayStand, 3, (some .boolean), fun _ _ => True) (xQz x Q) 0 [(0, .ref (x.2.2.1 + 260)), (1, iV p1), (2, iV p2)] [] μ
  refine x_ran (fun n0 => ?_)
  have h := h n0 hp1 hp2
  refine x_iload_n 1 rfl dX11_mayStand_0 ?_
  refine x_bipush dX11_mayStand_1 (by decide) ?_
  refine x_icmpeq (tgt := 34) hp1 ⟨by decide, by decide⟩ dX11_mayStand_3 (by decide) (fun k1 => ?_) (fun k1 => ?_)
  · have h := h.1 k1
    refine x_iconst dX11_mayStand_34 ?_
    refine x_goto (tgt := 39) dX11_mayStand_35 (by decide) ?_
    exact x_zret h (Or.inr rfl) rfl dX11_mayStand_39
  · have h := h.2 k1
    refine x_iload_n 2 rfl dX11_mayStand_6 ?_
    refine x_aload_n 0 rfl dX11_mayStand_7 ?_
    refine x_getR (j := 15) (r := 263) ly260 (by decide) rfl rfl (by decide) inT11 fl_X11_20 dX11_mayStand_8 ?_
    refine x_iconst dX11_mayStand_11 ?_
    refine x_iald ly263 (by decide) (by decide) ⟨by decide, by decide⟩ (by decide) dX11_mayStand_12 (fun r2 => ?_)
    refine x_icmpge (tgt := 38) hp2 r2 dX11_mayStand_13 (by decide) (fun k3 => ?_) (fun k3 => ?_)
    · have h := h.1 k3
      refine x_iconst dX11_mayStand_38 ?_
      exact x_zret h (Or.inl rfl) rfl dX11_mayStand_39
    · have h := h.2 k3
      refine x_iload_n 1 rfl dX11_mayStand_16 ?_
      refine x_aload_n 0 rfl dX11_mayStand_17 ?_
      refine x_getR (j := 15) (r := 263) ly260 (by decide) rfl rfl (by decide) inT11 fl_X11_20 dX11_mayStand_18 ?_
      refine x_iconst dX11_mayStand_21 ?_
      refine x_iald ly263 (by decide) (by decide) ⟨by decide, by decide⟩ (by decide) dX11_mayStand_22 (fun r4 => ?_)
      refine x_icmpge (tgt := 38) hp1 r4 dX11_mayStand_23 (by decide) (fun k5 => ?_) (fun k5 => ?_)
      · have h := h.1 k5
        refine x_iconst dX11_mayStand_38 ?_
        exact x_zret h (Or.inl rfl) rfl dX11_mayStand_39
      · have h := h.2 k5
        refine x_aload_n 0 rfl dX11_mayStand_26 ?_
        refine x_iload_n 1 rfl dX11_mayStand_27 ?_
        refine x_callVz (As := [iV p1]) (rest := []) cal_X11_isGood ins_X11_isGood sel_X11_isGood ly260 (by decide) rfl (xX11_isGood x p1 _ _ hp1 h) rfl ml_X11_240 (xRoom (Nat.le_of_ble_eq_true rfl)) (Nat.le_of_ble_eq_true rfl) dX11_mayStand_28 (fun r8 μ6 i9 n7 h => ?_)
        have h := h i9 n7
        refine x_ifeq (tgt := 38) (xIz i9)  dX11_mayStand_31 (by decide) (fun k10 => ?_) (fun k10 => ?_)
        · have h := h.1 k10
          refine x_iconst dX11_mayStand_38 ?_
          exact x_zret h (Or.inl rfl) rfl dX11_mayStand_39
        · have h := h.2 (xz1 i9 k10)
          refine x_iconst dX11_mayStand_34 ?_
          refine x_goto (tgt := 39) dX11_mayStand_35 (by decide) ?_
          exact x_zret h (Or.inr rfl) rfl dX11_mayStand_39
set_option maxRecDepth 100000 in
set_option maxHeartbeats 4000000 in
theorem xX11_keepRow (x : xX)  (μ : xM) (Q : xM → Prop)  (h : tX11_keepRow  μ Q) : xMet x 1 yX11_keepRow cX11_keepRow 2 none [.ref (x.2.2.1 + 260)] μ (xQv x Q) := by
  refine xMet_of (by decide +kernel) (Nat.le_of_ble_eq_true rfl) ?_
  show xW x (xRm 1, RX11, cX11_keepRow, 2, none, fun _ _ => True) (xQv x Q) 0 [(0, .ref (x.2.2.1 + 260))] [] μ
  refine x_ran (fun n0 => ?_)
  have h := h n0 
  refine x_iconst dX11_keepRow_0 ?_
  refine x_istore_n [(1, iV 0), (0, .ref (x.2.2.1 + 260))] dX11_keepRow_1 (show 1 < 2 by decide) rfl ?_
  refine x_sub [1, 0] rfl ?_
  refine x_loop1 (fun l1_1 => [(0, .ref (x.2.2.1 + 260)), (1, iV l1_1)]) h (fun J2 l1_1 μ2 hJ2 h n3 => ?_)
  refine x_iload_n 1 rfl dX11_keepRow_2 ?_
  refine x_iconst dX11_keepRow_3 ?_
  obtain ⟨c4, h⟩ := h
  refine x_icmpge (tgt := 25) c4 ⟨by decide, by decide⟩ dX11_keepRow_4 (by decide) (fun k5 => ?_) (fun k5 => ?_)
  · have h := h.1 k5
    exact x_vret h rfl dX11_keepRow_25
  · have h := h.2 k5
    refine x_aload_n 0 rfl dX11_keepRow_7 ?_
    refine x_getR (j := 27) (r := 274) ly260 (by decide) rfl rfl (by decide) inT11 fl_X11_53 dX11_keepRow_8 ?_
    refine x_iload_n 1 rfl dX11_keepRow_11 ?_
    refine x_aload_n 0 rfl dX11_keepRow_12 ?_
    refine x_getR (j := 28) (r := 275) ly260 (by decide) rfl rfl (by decide) inT11 fl_X11_56 dX11_keepRow_13 ?_
    refine x_iload_n 1 rfl dX11_keepRow_16 ?_
    obtain ⟨c6, h⟩ := h
    refine x_iald ly275 c6.1 c6.2 (xIb (n := 3) c6 (by decide)) (by decide) dX11_keepRow_17 (fun r7 => ?_)
    refine x_iast ly274 c6.1 c6.2 (xIb (n := 3) c6 (by decide)) r7 (by decide) dX11_keepRow_18 (fun μ8 e10 n9 => ?_)
    have h := h μ8 e10 n9
    refine x_iinc 1 rfl [(1, iV (l1_1 + 1)), (0, .ref (x.2.2.1 + 260))] dX11_keepRow_19 (show 1 < 2 by decide) rfl ?_
    refine x_goto (tgt := 2) dX11_keepRow_22 (by decide) ?_
    exact x_sub [1, 0] rfl (hJ2 _ _ h)
set_option maxRecDepth 100000 in
set_option maxHeartbeats 4000000 in
theorem xX11_wanted (x : xX) (p1 : Int) (μ : xM) (Q : xM → Prop) (hp1 : xIn p1) (h : tX11_wanted p1 μ Q) : xMet x 3 yX11_wanted cX11_wanted 4 none [.ref (x.2.2.1 + 260), iV p1] μ (xQv x Q) := by
  refine xMet_of (by decide +kernel) (Nat.le_of_ble_eq_true rfl) ?_
  show xW x (xRm 3, RX11, cX11_wanted, 4, none, fun _ _ => True) (xQv x Q) 0 [(0, .ref (x.2.2.1 + 260)), (1, iV p1)] [] μ
  refine x_ran (fun n0 => ?_)
  have h := h n0 hp1
  refine x_aload_n 0 rfl dX11_wanted_0 ?_
  refine x_callVz (As := []) (rest := []) cal_X11_addUp ins_X11_addUp sel_X11_addUp ly260 (by decide) rfl (xX11_addUp x  _ _  h) rfl ml_X11_280 (xRoom (Nat.le_of_ble_eq_true rfl)) (Nat.le_of_ble_eq_true rfl) dX11_wanted_1 (fun r3 μ1 i4 n2 h => ?_)
  have h := h i4 n2
  refine x_pop rfl dX11_wanted_4 ?_
  refine x_iconst dX11_wanted_5 ?_
  refine x_istore_n [(2, iV 1), (0, .ref (x.2.2.1 + 260)), (1, iV p1)] dX11_wanted_6 (show 2 < 4 by decide) rfl ?_
  refine x_iconst dX11_wanted_7 ?_
  refine x_istore_n [(3, iV 0), (2, iV 1), (0, .ref (x.2.2.1 + 260)), (1, iV p1)] dX11_wanted_8 (show 3 < 4 by decide) rfl ?_
  refine x_sub [2, 3, 1, 0] rfl ?_
  refine x_loop2 (fun l2_5 l3_6 => [(0, .ref (x.2.2.1 + 260)), (1, iV p1), (2, iV l2_5), (3, iV l3_6)]) h (fun J9 l2_5 l3_6 μ7 hJ9 h n8 => ?_)
  refine x_iload_n 3 rfl dX11_wanted_9 ?_
  refine x_bipush dX11_wanted_10 (by decide) ?_
  obtain ⟨c9, h⟩ := h
  refine x_icmpge (tgt := 46) c9 ⟨by decide, by decide⟩ dX11_wanted_12 (by decide) (fun k10 => ?_) (fun k10 => ?_)
  · have h := h.1 k10
    refine x_iload_n 2 rfl dX11_wanted_46 ?_
    obtain ⟨c11, h⟩ := h
    refine x_ifeq (tgt := 72) c11  dX11_wanted_47 (by decide) (fun k12 => ?_) (fun k12 => ?_)
    · have h := h.1 k12
      exact x_vret h rfl dX11_wanted_72
    · have h := h.2 k12
      refine x_aload_n 0 rfl dX11_wanted_50 ?_
      refine x_getI (j := 33) ly260 (by decide) rfl rfl (by decide) inT11 fl_X11_270 dX11_wanted_51 (fun r13 => ?_)
      refine x_bipush dX11_wanted_54 (by decide) ?_
      refine x_icmpeq (tgt := 73) r13 ⟨by decide, by decide⟩ dX11_wanted_56 (by decide) (fun k14 => ?_) (fun k14 => ?_)
      · have h := h.1 k14
        refine x_aload_n 0 rfl dX11_wanted_73 ?_
        refine x_aload_n 0 rfl dX11_wanted_74 ?_
        refine x_callVi (As := []) (rest := [.ref (x.2.2.1 + 260)]) cal_X11_lettersOf ins_X11_lettersOf sel_X11_lettersOf ly260 (by decide) rfl (xX11_lettersOf x  _ _  h) rfl ml_X11_286 (xRoom (Nat.le_of_ble_eq_true rfl)) (Nat.le_of_ble_eq_true rfl) dX11_wanted_75 (fun r17 μ15 i18 n16 h => ?_)
        have h := h i18 n16
        refine x_iload_n 1 rfl dX11_wanted_78 ?_
        refine x_isub dX11_wanted_79 ?_
        obtain ⟨c19, h⟩ := h
        refine x_putI (j := 33) ly260 (by decide) rfl rfl (by decide) inT11 fl_X11_270 tyX11 tyX11_ok nmX11 rfl c19 (by decide +kernel) dX11_wanted_80 (fun μ20 e22 n21 => ?_)
        have h := h μ20 e22 n21
        refine x_aload_n 0 rfl dX11_wanted_83 ?_
        refine x_callVv (As := []) (rest := []) cal_X11_keepRow ins_X11_keepRow sel_X11_keepRow ly260 (by decide) rfl (xX11_keepRow x  _ _  h) rfl ml_X11_295 (xRoom (Nat.le_of_ble_eq_true rfl)) (Nat.le_of_ble_eq_true rfl) dX11_wanted_84 (fun μ23 n24 h => ?_)
        have h := h n24
        exact x_vret h rfl dX11_wanted_87
      · have h := h.2 k14
        refine x_aload_n 0 rfl dX11_wanted_59 ?_
        refine x_callVi (As := []) (rest := []) cal_X11_lettersOf ins_X11_lettersOf sel_X11_lettersOf ly260 (by decide) rfl (xX11_lettersOf x  _ _  h) rfl ml_X11_286 (xRoom (Nat.le_of_ble_eq_true rfl)) (Nat.le_of_ble_eq_true rfl) dX11_wanted_60 (fun r27 μ25 i28 n26 h => ?_)
        have h := h i28 n26
        refine x_iload_n 1 rfl dX11_wanted_63 ?_
        refine x_isub dX11_wanted_64 ?_
        refine x_aload_n 0 rfl dX11_wanted_65 ?_
        refine x_getI (j := 33) ly260 (by decide) rfl rfl (by decide) inT11 fl_X11_270 dX11_wanted_66 (fun r29 => ?_)
        obtain ⟨c30, h⟩ := h
        refine x_icmplt (tgt := 73) c30 r29 dX11_wanted_69 (by decide) (fun k31 => ?_) (fun k31 => ?_)
        · have h := h.1 k31
          refine x_aload_n 0 rfl dX11_wanted_73 ?_
          refine x_aload_n 0 rfl dX11_wanted_74 ?_
          refine x_callVi (As := []) (rest := [.ref (x.2.2.1 + 260)]) cal_X11_lettersOf ins_X11_lettersOf sel_X11_lettersOf ly260 (by decide) rfl (xX11_lettersOf x  _ _  h) rfl ml_X11_286 (xRoom (Nat.le_of_ble_eq_true rfl)) (Nat.le_of_ble_eq_true rfl) dX11_wanted_75 (fun r34 μ32 i35 n33 h => ?_)
          have h := h i35 n33
          refine x_iload_n 1 rfl dX11_wanted_78 ?_
          refine x_isub dX11_wanted_79 ?_
          obtain ⟨c36, h⟩ := h
          refine x_putI (j := 33) ly260 (by decide) rfl rfl (by decide) inT11 fl_X11_270 tyX11 tyX11_ok nmX11 rfl c36 (by decide +kernel) dX11_wanted_80 (fun μ37 e39 n38 => ?_)
          have h := h μ37 e39 n38
          refine x_aload_n 0 rfl dX11_wanted_83 ?_
          refine x_callVv (As := []) (rest := []) cal_X11_keepRow ins_X11_keepRow sel_X11_keepRow ly260 (by decide) rfl (xX11_keepRow x  _ _  h) rfl ml_X11_295 (xRoom (Nat.le_of_ble_eq_true rfl)) (Nat.le_of_ble_eq_true rfl) dX11_wanted_84 (fun μ40 n41 h => ?_)
          have h := h n41
          exact x_vret h rfl dX11_wanted_87
        · have h := h.2 k31
          exact x_vret h rfl dX11_wanted_72
  · have h := h.2 k10
    refine x_iload_n 2 rfl dX11_wanted_15 ?_
    obtain ⟨c42, h⟩ := h
    refine x_ifeq (tgt := 38) c42  dX11_wanted_16 (by decide) (fun k43 => ?_) (fun k43 => ?_)
    · have h := h.1 k43
      refine x_iconst dX11_wanted_38 ?_
      refine x_istore_n [(2, iV 0), (0, .ref (x.2.2.1 + 260)), (1, iV p1), (3, iV l3_6)] dX11_wanted_39 (show 2 < 4 by decide) rfl ?_
      refine x_iinc 3 rfl [(3, iV (l3_6 + 1)), (2, iV 0), (0, .ref (x.2.2.1 + 260)), (1, iV p1)] dX11_wanted_40 (show 3 < 4 by decide) rfl ?_
      refine x_goto (tgt := 9) dX11_wanted_43 (by decide) ?_
      exact x_sub [2, 3, 1, 0] rfl (hJ9 _ _ _ h)
    · have h := h.2 k43
      refine x_aload_n 0 rfl dX11_wanted_19 ?_
      refine x_getR (j := 25) (r := 272) ly260 (by decide) rfl rfl (by decide) inT11 fl_X11_47 dX11_wanted_20 ?_
      refine x_iload_n 3 rfl dX11_wanted_23 ?_
      obtain ⟨c44, h⟩ := h
      refine x_iald ly272 c44.1 c44.2 (xIb (n := 26) c44 (by decide)) (by decide) dX11_wanted_24 (fun r45 => ?_)
      refine x_aload_n 0 rfl dX11_wanted_25 ?_
      refine x_getR (j := 26) (r := 273) ly260 (by decide) rfl rfl (by decide) inT11 fl_X11_50 dX11_wanted_26 ?_
      refine x_iload_n 3 rfl dX11_wanted_29 ?_
      refine x_iald ly273 c44.1 c44.2 (xIb (n := 26) c44 (by decide)) (by decide) dX11_wanted_30 (fun r46 => ?_)
      refine x_icmplt (tgt := 38) r45 r46 dX11_wanted_31 (by decide) (fun k47 => ?_) (fun k47 => ?_)
      · have h := h.1 k47
        refine x_iconst dX11_wanted_38 ?_
        refine x_istore_n [(2, iV 0), (0, .ref (x.2.2.1 + 260)), (1, iV p1), (3, iV l3_6)] dX11_wanted_39 (show 2 < 4 by decide) rfl ?_
        refine x_iinc 3 rfl [(3, iV (l3_6 + 1)), (2, iV 0), (0, .ref (x.2.2.1 + 260)), (1, iV p1)] dX11_wanted_40 (show 3 < 4 by decide) rfl ?_
        refine x_goto (tgt := 9) dX11_wanted_43 (by decide) ?_
        exact x_sub [2, 3, 1, 0] rfl (hJ9 _ _ _ h)
      · have h := h.2 k47
        refine x_iconst dX11_wanted_34 ?_
        refine x_goto (tgt := 39) dX11_wanted_35 (by decide) ?_
        refine x_istore_n [(2, iV 1), (0, .ref (x.2.2.1 + 260)), (1, iV p1), (3, iV l3_6)] dX11_wanted_39 (show 2 < 4 by decide) rfl ?_
        refine x_iinc 3 rfl [(3, iV (l3_6 + 1)), (2, iV 1), (0, .ref (x.2.2.1 + 260)), (1, iV p1)] dX11_wanted_40 (show 3 < 4 by decide) rfl ?_
        refine x_goto (tgt := 9) dX11_wanted_43 (by decide) ?_
        exact x_sub [2, 3, 1, 0] rfl (hJ9 _ _ _ h)
set_option maxRecDepth 100000 in
set_option maxHeartbeats 4000000 in
theorem xX11_judge_b63 (x : xX) (p1 : Int) (b2 : Int) (b3 : Int) (μ : xM) (Q : xM → Prop)  (hp1 : xIn p1)  (h : tX11_judge_b63 p1 b2 b3 μ Q ) : xW x (xRm 2, RX11, cX11_judge, 4, none, fun _ _ => True) (xQv x Q) 63 [(0, .ref (x.2.2.1 + 260)), (2, iV b2), (3, iV b3)] [] μ := by
  refine x_ran (fun n0 => ?_)
  have h := h n0
  refine x_iload_n 1 rfl dX11_judge_63 ?_
  refine x_aload_n 0 rfl dX11_judge_64 ?_
  refine x_getI (j := 29) ly260 (by decide) rfl rfl (by decide) inT11 fl_X11_258 dX11_judge_65 (fun r18 => ?_)
  obtain ⟨c19, h⟩ := h
  refine x_icmplt (tgt := 87) c19 r18 dX11_judge_68 (by decide) (fun k20 => ?_) (fun k20 => ?_)
  · have h := h.1 k20
    exact x_vret h rfl dX11_judge_87
  · have h := h.2 k20
    refine x_iload_n 1 rfl dX11_judge_71 ?_
    refine x_aload_n 0 rfl dX11_judge_72 ?_
    refine x_getI (j := 29) ly260 (by decide) rfl rfl (by decide) inT11 fl_X11_258 dX11_judge_73 (fun r21 => ?_)
    refine x_icmpne (tgt := 88) c19 r21 dX11_judge_76 (by decide) (fun k22 => ?_) (fun k22 => ?_)
    · have h := h.1 k22
      refine x_aload_n 0 rfl dX11_judge_88 ?_
      refine x_iload_n 1 rfl dX11_judge_89 ?_
      refine x_putI (j := 29) ly260 (by decide) rfl rfl (by decide) inT11 fl_X11_258 tyX11 tyX11_ok nmX11 rfl c19 (by decide +kernel) dX11_judge_90 (fun μ23 e25 n24 => ?_)
      have h := h μ23 e25 n24
      refine x_aload_n 0 rfl dX11_judge_93 ?_
      refine x_iload_n 2 rfl dX11_judge_94 ?_
      obtain ⟨c26, h⟩ := h
      refine x_putI (j := 30) ly260 (by decide) rfl rfl (by decide) inT11 fl_X11_261 tyX11 tyX11_ok nmX11 rfl c26 (by decide +kernel) dX11_judge_95 (fun μ27 e29 n28 => ?_)
      have h := h μ27 e29 n28
      refine x_aload_n 0 rfl dX11_judge_98 ?_
      refine x_callVv (As := []) (rest := []) cal_X11_keepRow ins_X11_keepRow sel_X11_keepRow ly260 (by decide) rfl (xX11_keepRow x  _ _  h) rfl ml_X11_295 (xRoom (Nat.le_of_ble_eq_true rfl)) (Nat.le_of_ble_eq_true rfl) dX11_judge_99 (fun μ30 n31 h => ?_)
      have h := h n31
      exact x_vret h rfl dX11_judge_102
    · have h := h.2 k22
      refine x_iload_n 2 rfl dX11_judge_79 ?_
      refine x_aload_n 0 rfl dX11_judge_80 ?_
      refine x_getI (j := 30) ly260 (by decide) rfl rfl (by decide) inT11 fl_X11_261 dX11_judge_81 (fun r32 => ?_)
      obtain ⟨c33, h⟩ := h
      refine x_icmpgt (tgt := 88) c33 r32 dX11_judge_84 (by decide) (fun k34 => ?_) (fun k34 => ?_)
      · have h := h.1 k34
        refine x_aload_n 0 rfl dX11_judge_88 ?_
        refine x_iload_n 1 rfl dX11_judge_89 ?_
        refine x_putI (j := 29) ly260 (by decide) rfl rfl (by decide) inT11 fl_X11_258 tyX11 tyX11_ok nmX11 rfl c19 (by decide +kernel) dX11_judge_90 (fun μ35 e37 n36 => ?_)
        have h := h μ35 e37 n36
        refine x_aload_n 0 rfl dX11_judge_93 ?_
        refine x_iload_n 2 rfl dX11_judge_94 ?_
        refine x_putI (j := 30) ly260 (by decide) rfl rfl (by decide) inT11 fl_X11_261 tyX11 tyX11_ok nmX11 rfl c33 (by decide +kernel) dX11_judge_95 (fun μ38 e40 n39 => ?_)
        have h := h μ38 e40 n39
        refine x_aload_n 0 rfl dX11_judge_98 ?_
        refine x_callVv (As := []) (rest := []) cal_X11_keepRow ins_X11_keepRow sel_X11_keepRow ly260 (by decide) rfl (xX11_keepRow x  _ _  h) rfl ml_X11_295 (xRoom (Nat.le_of_ble_eq_true rfl)) (Nat.le_of_ble_eq_true rfl) dX11_judge_99 (fun μ41 n42 h => ?_)
        have h := h n42
        exact x_vret h rfl dX11_judge_102
      · have h := h.2 k34
        exact x_vret h rfl dX11_judge_87
set_option maxRecDepth 100000 in
set_option maxHeartbeats 4000000 in
theorem xX11_judge_b55 (x : xX) (p1 : Int) (b2 : Int) (b3 : Int) (μ : xM) (Q : xM → Prop)  (hp1 : xIn p1)  (h : tX11_judge_b55 p1 b2 b3 μ Q ) : xW x (xRm 2, RX11, cX11_judge, 4, none, fun _ _ => True) (xQv x Q) 55 [(0, .ref (x.2.2.1 + 260)), (2, iV b2), (3, iV b3)] [] μ := by
  refine x_ran (fun n0 => ?_)
  have h := h n0
  refine x_aload_n 0 rfl dX11_judge_55 ?_
  refine x_aload_n 0 rfl dX11_judge_56 ?_
  refine x_callVi (As := []) (rest := [.ref (x.2.2.1 + 260)]) cal_X11_wordsOf ins_X11_wordsOf sel_X11_wordsOf ly260 (by decide) rfl (xX11_wordsOf x  _ _  h) rfl ml_X11_292 (xRoom (Nat.le_of_ble_eq_true rfl)) (Nat.le_of_ble_eq_true rfl) dX11_judge_57 (fun r47 μ45 i48 n46 h => ?_)
  have h := h i48 n46
  refine x_putI (j := 32) ly260 (by decide) rfl rfl (by decide) inT11 fl_X11_267 tyX11 tyX11_ok nmX11 rfl i48 (by decide +kernel) dX11_judge_60 (fun μ49 e51 n50 => ?_)
  have h := h μ49 e51 n50
  exact x_sub [0, 1, 2] rfl (xX11_judge_b63 x p1 b2 b3 μ49 Q  hp1 h)
set_option maxRecDepth 100000 in
set_option maxHeartbeats 4000000 in
theorem xX11_judge_b27 (x : xX) (p1 : Int) (b2 : Int) (b3 : Int) (s1 : Int) (μ : xM) (Q : xM → Prop)  (hp1 : xIn p1)  (h : tX11_judge_b27 p1 b2 b3 s1 μ Q ) : xW x (xRm 2, RX11, cX11_judge, 4, none, fun _ _ => True) (xQv x Q) 27 [(0, .ref (x.2.2.1 + 260)), (1, iV p1), (2, iV b2), (3, iV b3)] [iV s1, .ref (x.2.2.1 + 260)] μ := by
  refine x_ran (fun n0 => ?_)
  have h := h n0
  obtain ⟨c12, h⟩ := h
  refine x_putI (j := 31) ly260 (by decide) rfl rfl (by decide) inT11 fl_X11_264 tyX11 tyX11_ok nmX11 rfl c12 (by decide +kernel) dX11_judge_27 (fun μ13 e15 n14 => ?_)
  have h := h μ13 e15 n14
  refine x_iload_n 2 rfl dX11_judge_30 ?_
  refine x_iload_n 1 rfl dX11_judge_31 ?_
  obtain ⟨c16, h⟩ := h
  refine x_icmpne (tgt := 63) c16 hp1 dX11_judge_32 (by decide) (fun k17 => ?_) (fun k17 => ?_)
  · have h := h.1 k17
    exact x_sub [0, 2, 3] rfl (xX11_judge_b63 x p1 b2 b3 μ13 Q  hp1 h)
  · have h := h.2 k17
    refine x_aload_n 0 rfl dX11_judge_35 ?_
    refine x_getI (j := 32) ly260 (by decide) rfl rfl (by decide) inT11 fl_X11_267 dX11_judge_36 (fun r43 => ?_)
    refine x_bipush dX11_judge_39 (by decide) ?_
    refine x_icmpeq (tgt := 55) r43 ⟨by decide, by decide⟩ dX11_judge_41 (by decide) (fun k44 => ?_) (fun k44 => ?_)
    · have h := h.1 k44
      exact x_sub [0, 2, 3] rfl (xX11_judge_b55 x p1 b2 b3 μ13 Q  hp1 h)
    · have h := h.2 k44
      refine x_aload_n 0 rfl dX11_judge_44 ?_
      refine x_callVi (As := []) (rest := []) cal_X11_wordsOf ins_X11_wordsOf sel_X11_wordsOf ly260 (by decide) rfl (xX11_wordsOf x  _ _  h) rfl ml_X11_292 (xRoom (Nat.le_of_ble_eq_true rfl)) (Nat.le_of_ble_eq_true rfl) dX11_judge_45 (fun r54 μ52 i55 n53 h => ?_)
      have h := h i55 n53
      refine x_aload_n 0 rfl dX11_judge_48 ?_
      refine x_getI (j := 32) ly260 (by decide) rfl rfl (by decide) inT11 fl_X11_267 dX11_judge_49 (fun r56 => ?_)
      refine x_icmpge (tgt := 63) i55 r56 dX11_judge_52 (by decide) (fun k57 => ?_) (fun k57 => ?_)
      · have h := h.1 k57
        exact x_sub [0, 2, 3] rfl (xX11_judge_b63 x p1 b2 b3 μ52 Q  hp1 h)
      · have h := h.2 k57
        exact x_sub [0, 2, 3] rfl (xX11_judge_b55 x p1 b2 b3 μ52 Q  hp1 h)
set_option maxRecDepth 100000 in
set_option maxHeartbeats 4000000 in
theorem xX11_judge (x : xX) (p1 : Int) (μ : xM) (Q : xM → Prop) (hp1 : xIn p1) (h : tX11_judge p1 μ Q) : xMet x 2 yX11_judge cX11_judge 4 none [.ref (x.2.2.1 + 260), iV p1] μ (xQv x Q) := by
  refine xMet_of (by decide +kernel) (Nat.le_of_ble_eq_true rfl) ?_
  show xW x (xRm 2, RX11, cX11_judge, 4, none, fun _ _ => True) (xQv x Q) 0 [(0, .ref (x.2.2.1 + 260)), (1, iV p1)] [] μ
  refine x_ran (fun n0 => ?_)
  have h := h n0 hp1
  refine x_aload_n 0 rfl dX11_judge_0 ?_
  refine x_callVi (As := []) (rest := []) cal_X11_lettersOf ins_X11_lettersOf sel_X11_lettersOf ly260 (by decide) rfl (xX11_lettersOf x  _ _  h) rfl ml_X11_286 (xRoom (Nat.le_of_ble_eq_true rfl)) (Nat.le_of_ble_eq_true rfl) dX11_judge_1 (fun r3 μ1 i4 n2 h => ?_)
  have h := h i4 n2
  refine x_istore_n [(2, iV r3), (0, .ref (x.2.2.1 + 260)), (1, iV p1)] dX11_judge_4 (show 2 < 4 by decide) rfl ?_
  refine x_aload_n 1 rfl dX11_judge_5 ?_
  refine x_callVi (As := []) (rest := []) cal_X11_worthOf ins_X11_worthOf sel_X11_worthOf ly260 (by decide) rfl (xX11_worthOf x  _ _  h) rfl ml_X11_289 (xRoom (Nat.le_of_ble_eq_true rfl)) (Nat.le_of_ble_eq_true rfl) dX11_judge_6 (fun r7 μ5 i8 n6 h => ?_)
  have h := h i8 n6
  refine x_istore_n [(3, iV r7), (2, iV r3), (0, .ref (x.2.2.1 + 260)), (1, iV p1)] dX11_judge_9 (show 3 < 4 by decide) rfl ?_
  refine x_aload_n 2 rfl dX11_judge_10 ?_
  refine x_iload_n 0 rfl dX11_judge_11 ?_
  refine x_aload_n 2 rfl dX11_judge_12 ?_
  refine x_getI (j := 31) ly260 (by decide) rfl rfl (by decide) inT11 fl_X11_264 dX11_judge_13 (fun r9 => ?_)
  refine x_icmple (tgt := 23) i8 r9 dX11_judge_16 (by decide) (fun k10 => ?_) (fun k10 => ?_)
  · have h := h.1 k10
    refine x_aload_n 2 rfl dX11_judge_23 ?_
    refine x_getI (j := 31) ly260 (by decide) rfl rfl (by decide) inT11 fl_X11_264 dX11_judge_24 (fun r11 => ?_)
    exact x_sub [2, 3, 1, 0] rfl (xX11_judge_b27 x p1 r3 r7 (μ5 260 31) μ5 Q  hp1 h)
  · have h := h.2 k10
    refine x_iload_n 0 rfl dX11_judge_19 ?_
    refine x_goto (tgt := 27) dX11_judge_20 (by decide) ?_
    exact x_sub [2, 3, 1, 0] rfl (xX11_judge_b27 x p1 r3 r7 r7 μ5 Q  hp1 h)
set_option maxRecDepth 100000 in
set_option maxHeartbeats 4000000 in
theorem xX11_plans (x : xX) (p1 : Int) (μ : xM) (Q : xM → Prop) (hp1 : p1 = 0 ∨ p1 = 1) (h : tX11_plans p1 μ Q) : xMet x 4 yX11_plans cX11_plans 6 none [.ref (x.2.2.1 + 260), iV p1] μ (xQv x Q) := by
  refine xMet_of (by decide +kernel) (Nat.le_of_ble_eq_true rfl) ?_
  show xW x (xRm 4, RX11, cX11_plans, 6, none, fun _ _ => True) (xQv x Q) 0 [(0, .ref (x.2.2.1 + 260)), (1, iV p1)] [] μ
  refine x_ran (fun n0 => ?_)
  have h := h n0 hp1
  refine x_aload_n 0 rfl dX11_plans_0 ?_
  refine x_iconst dX11_plans_1 ?_
  refine x_putI (j := 29) ly260 (by decide) rfl rfl (by decide) inT11 fl_X11_258 tyX11 tyX11_ok nmX11 rfl ⟨by decide, by decide⟩ (by decide +kernel) dX11_plans_2 (fun μ1 e3 n2 => ?_)
  have h := h μ1 e3 n2
  refine x_aload_n 0 rfl dX11_plans_5 ?_
  refine x_iconst dX11_plans_6 ?_
  refine x_putI (j := 30) ly260 (by decide) rfl rfl (by decide) inT11 fl_X11_261 tyX11 tyX11_ok nmX11 rfl ⟨by decide, by decide⟩ (by decide +kernel) dX11_plans_7 (fun μ4 e6 n5 => ?_)
  have h := h μ4 e6 n5
  refine x_aload_n 0 rfl dX11_plans_10 ?_
  refine x_iconst dX11_plans_11 ?_
  refine x_putI (j := 31) ly260 (by decide) rfl rfl (by decide) inT11 fl_X11_264 tyX11 tyX11_ok nmX11 rfl ⟨by decide, by decide⟩ (by decide +kernel) dX11_plans_12 (fun μ7 e9 n8 => ?_)
  have h := h μ7 e9 n8
  refine x_aload_n 0 rfl dX11_plans_15 ?_
  refine x_bipush dX11_plans_16 (by decide) ?_
  refine x_putI (j := 32) ly260 (by decide) rfl rfl (by decide) inT11 fl_X11_267 tyX11 tyX11_ok nmX11 rfl ⟨by decide, by decide⟩ (by decide +kernel) dX11_plans_18 (fun μ10 e12 n11 => ?_)
  have h := h μ10 e12 n11
  refine x_aload_n 0 rfl dX11_plans_21 ?_
  refine x_bipush dX11_plans_22 (by decide) ?_
  refine x_putI (j := 33) ly260 (by decide) rfl rfl (by decide) inT11 fl_X11_270 tyX11 tyX11_ok nmX11 rfl ⟨by decide, by decide⟩ (by decide +kernel) dX11_plans_24 (fun μ13 e15 n14 => ?_)
  have h := h μ13 e15 n14
  refine x_iconst dX11_plans_27 ?_
  refine x_istore_n [(2, iV 0), (0, .ref (x.2.2.1 + 260)), (1, iV p1)] dX11_plans_28 (show 2 < 6 by decide) rfl ?_
  refine x_iconst dX11_plans_29 ?_
  refine x_istore_n [(3, iV 0), (2, iV 0), (0, .ref (x.2.2.1 + 260)), (1, iV p1)] dX11_plans_30 (show 3 < 6 by decide) rfl ?_
  refine x_sub [2, 3, 1, 0] rfl ?_
  refine x_loop2 (fun l2_16 l3_17 => [(0, .ref (x.2.2.1 + 260)), (1, iV p1), (2, iV l2_16), (3, iV l3_17)]) h (fun J31 l2_16 l3_17 μ18 hJ31 h n19 => ?_)
  refine x_iload_n 3 rfl dX11_plans_31 ?_
  refine x_bipush dX11_plans_32 (by decide) ?_
  obtain ⟨c20, h⟩ := h
  refine x_icmpge (tgt := 52) c20 ⟨by decide, by decide⟩ dX11_plans_34 (by decide) (fun k21 => ?_) (fun k21 => ?_)
  · have h := h.1 k21
    refine x_iconst dX11_plans_52 ?_
    refine x_istore_n [(3, iV 0), (0, .ref (x.2.2.1 + 260)), (1, iV p1), (2, iV l2_16)] dX11_plans_53 (show 3 < 6 by decide) rfl ?_
    refine x_sub [1, 2, 3, 0] rfl ?_
    refine x_loop1 (fun l3_22 => [(0, .ref (x.2.2.1 + 260)), (1, iV p1), (2, iV l2_16), (3, iV l3_22)]) h (fun J54 l3_22 μ23 hJ54 h n24 => ?_)
    refine x_iload_n 3 rfl dX11_plans_54 ?_
    refine x_bipush dX11_plans_55 (by decide) ?_
    obtain ⟨c25, h⟩ := h
    refine x_icmpgt (tgt := 178) c25 ⟨by decide, by decide⟩ dX11_plans_57 (by decide) (fun k26 => ?_) (fun k26 => ?_)
    · have h := h.1 k26
      exact x_vret h rfl dX11_plans_178
    · have h := h.2 k26
      refine x_iload_n 3 rfl dX11_plans_60 ?_
      refine x_istore [(4, iV l3_22), (0, .ref (x.2.2.1 + 260)), (1, iV p1), (2, iV l2_16), (3, iV l3_22)] dX11_plans_61 (show 4 < 6 by decide) rfl ?_
      refine x_sub [1, 2, 3, 4, 0] rfl ?_
      refine x_loop1 (fun l4_27 => [(0, .ref (x.2.2.1 + 260)), (1, iV p1), (2, iV l2_16), (3, iV l3_22), (4, iV l4_27)]) h (fun J63 l4_27 μ28 hJ63 h n29 => ?_)
      refine x_iload 4 rfl dX11_plans_63 ?_
      refine x_bipush dX11_plans_65 (by decide) ?_
      obtain ⟨c30, h⟩ := h
      refine x_icmpgt (tgt := 172) c30 ⟨by decide, by decide⟩ dX11_plans_67 (by decide) (fun k31 => ?_) (fun k31 => ?_)
      · have h := h.1 k31
        refine x_iinc 3 rfl [(3, iV (l3_22 + 1)), (0, .ref (x.2.2.1 + 260)), (1, iV p1), (2, iV l2_16), (4, iV l4_27)] dX11_plans_172 (show 3 < 6 by decide) rfl ?_
        refine x_goto (tgt := 54) dX11_plans_175 (by decide) ?_
        exact x_sub [1, 2, 3, 0] rfl (hJ54 _ _ h)
      · have h := h.2 k31
        refine x_iload 4 rfl dX11_plans_70 ?_
        refine x_istore [(5, iV l4_27), (0, .ref (x.2.2.1 + 260)), (1, iV p1), (2, iV l2_16), (3, iV l3_22), (4, iV l4_27)] dX11_plans_72 (show 5 < 6 by decide) rfl ?_
        refine x_sub [1, 2, 3, 4, 5, 0] rfl ?_
        refine x_loop1 (fun l5_32 => [(0, .ref (x.2.2.1 + 260)), (1, iV p1), (2, iV l2_16), (3, iV l3_22), (4, iV l4_27), (5, iV l5_32)]) h (fun J74 l5_32 μ33 hJ74 h n34 => ?_)
        refine x_iload 5 rfl dX11_plans_74 ?_
        refine x_bipush dX11_plans_76 (by decide) ?_
        obtain ⟨c35, h⟩ := h
        refine x_icmpgt (tgt := 166) c35 ⟨by decide, by decide⟩ dX11_plans_78 (by decide) (fun k36 => ?_) (fun k36 => ?_)
        · have h := h.1 k36
          refine x_iinc 4 rfl [(4, iV (l4_27 + 1)), (0, .ref (x.2.2.1 + 260)), (1, iV p1), (2, iV l2_16), (3, iV l3_22), (5, iV l5_32)] dX11_plans_166 (show 4 < 6 by decide) rfl ?_
          refine x_goto (tgt := 63) dX11_plans_169 (by decide) ?_
          exact x_sub [1, 2, 3, 4, 0] rfl (hJ63 _ _ h)
        · have h := h.2 k36
          refine x_aload_n 0 rfl dX11_plans_81 ?_
          refine x_iload_n 3 rfl dX11_plans_82 ?_
          refine x_iconst dX11_plans_83 ?_
          obtain ⟨c37, h⟩ := h
          refine x_callVz (As := [iV l3_22, iV 0]) (rest := []) cal_X11_mayStand ins_X11_mayStand sel_X11_mayStand ly260 (by decide) rfl (xX11_mayStand x l3_22 0 _ _ c37 ⟨by decide, by decide⟩ h) rfl ml_X11_273 (xRoom (Nat.le_of_ble_eq_true rfl)) (Nat.le_of_ble_eq_true rfl) dX11_plans_84 (fun r40 μ38 i41 n39 h => ?_)
          have h := h i41 n39
          refine x_ifeq (tgt := 160) (xIz i41)  dX11_plans_87 (by decide) (fun k42 => ?_) (fun k42 => ?_)
          · have h := h.1 k42
            refine x_iinc 5 rfl [(5, iV (l5_32 + 1)), (0, .ref (x.2.2.1 + 260)), (1, iV p1), (2, iV l2_16), (3, iV l3_22), (4, iV l4_27)] dX11_plans_160 (show 5 < 6 by decide) rfl ?_
            refine x_goto (tgt := 74) dX11_plans_163 (by decide) ?_
            exact x_sub [1, 2, 3, 4, 5, 0] rfl (hJ74 _ _ h)
          · have h := h.2 (xz1 i41 k42)
            refine x_aload_n 0 rfl dX11_plans_90 ?_
            refine x_iload 4 rfl dX11_plans_91 ?_
            refine x_iconst dX11_plans_93 ?_
            obtain ⟨c43, h⟩ := h
            refine x_callVz (As := [iV l4_27, iV 1]) (rest := []) cal_X11_mayStand ins_X11_mayStand sel_X11_mayStand ly260 (by decide) rfl (xX11_mayStand x l4_27 1 _ _ c43 ⟨by decide, by decide⟩ h) rfl ml_X11_273 (xRoom (Nat.le_of_ble_eq_true rfl)) (Nat.le_of_ble_eq_true rfl) dX11_plans_94 (fun r46 μ44 i47 n45 h => ?_)
            have h := h i47 n45
            refine x_ifeq (tgt := 160) (xIz i47)  dX11_plans_97 (by decide) (fun k48 => ?_) (fun k48 => ?_)
            · have h := h.1 k48
              refine x_iinc 5 rfl [(5, iV (l5_32 + 1)), (0, .ref (x.2.2.1 + 260)), (1, iV p1), (2, iV l2_16), (3, iV l3_22), (4, iV l4_27)] dX11_plans_160 (show 5 < 6 by decide) rfl ?_
              refine x_goto (tgt := 74) dX11_plans_163 (by decide) ?_
              exact x_sub [1, 2, 3, 4, 5, 0] rfl (hJ74 _ _ h)
            · have h := h.2 (xz1 i47 k48)
              refine x_aload_n 0 rfl dX11_plans_100 ?_
              refine x_iload 5 rfl dX11_plans_101 ?_
              refine x_iconst dX11_plans_103 ?_
              refine x_callVz (As := [iV l5_32, iV 2]) (rest := []) cal_X11_mayStand ins_X11_mayStand sel_X11_mayStand ly260 (by decide) rfl (xX11_mayStand x l5_32 2 _ _ c35 ⟨by decide, by decide⟩ h) rfl ml_X11_273 (xRoom (Nat.le_of_ble_eq_true rfl)) (Nat.le_of_ble_eq_true rfl) dX11_plans_104 (fun r51 μ49 i52 n50 h => ?_)
              have h := h i52 n50
              refine x_ifne (tgt := 113) (xIz i52)  dX11_plans_107 (by decide) (fun k53 => ?_) (fun k53 => ?_)
              · have h := h.1 (xz1 i52 k53)
                refine x_aload_n 0 rfl dX11_plans_113 ?_
                refine x_getR (j := 28) (r := 275) ly260 (by decide) rfl rfl (by decide) inT11 fl_X11_56 dX11_plans_114 ?_
                refine x_iconst dX11_plans_117 ?_
                refine x_iload_n 3 rfl dX11_plans_118 ?_
                refine x_iast ly275 (by decide) (by decide) ⟨by decide, by decide⟩ c37 (by decide) dX11_plans_119 (fun μ54 e56 n55 => ?_)
                have h := h μ54 e56 n55
                refine x_aload_n 0 rfl dX11_plans_120 ?_
                refine x_getR (j := 28) (r := 275) ly260 (by decide) rfl rfl (by decide) inT11 fl_X11_56 dX11_plans_121 ?_
                refine x_iconst dX11_plans_124 ?_
                refine x_iload 4 rfl dX11_plans_125 ?_
                refine x_iast ly275 (by decide) (by decide) ⟨by decide, by decide⟩ c43 (by decide) dX11_plans_127 (fun μ57 e59 n58 => ?_)
                have h := h μ57 e59 n58
                refine x_aload_n 0 rfl dX11_plans_128 ?_
                refine x_getR (j := 28) (r := 275) ly260 (by decide) rfl rfl (by decide) inT11 fl_X11_56 dX11_plans_129 ?_
                refine x_iconst dX11_plans_132 ?_
                refine x_iload 5 rfl dX11_plans_133 ?_
                refine x_iast ly275 (by decide) (by decide) ⟨by decide, by decide⟩ c35 (by decide) dX11_plans_135 (fun μ60 e62 n61 => ?_)
                have h := h μ60 e62 n61
                refine x_iload_n 1 rfl dX11_plans_136 ?_
                refine x_ifeq (tgt := 148) (xIz hp1)  dX11_plans_137 (by decide) (fun k63 => ?_) (fun k63 => ?_)
                · have h := h.1 k63
                  refine x_aload_n 0 rfl dX11_plans_148 ?_
                  refine x_callVz (As := []) (rest := []) cal_X11_addUp ins_X11_addUp sel_X11_addUp ly260 (by decide) rfl (xX11_addUp x  _ _  h) rfl ml_X11_280 (xRoom (Nat.le_of_ble_eq_true rfl)) (Nat.le_of_ble_eq_true rfl) dX11_plans_149 (fun r66 μ64 i67 n65 h => ?_)
                  have h := h i67 n65
                  refine x_ifeq (tgt := 160) (xIz i67)  dX11_plans_152 (by decide) (fun k68 => ?_) (fun k68 => ?_)
                  · have h := h.1 k68
                    refine x_iinc 5 rfl [(5, iV (l5_32 + 1)), (0, .ref (x.2.2.1 + 260)), (1, iV p1), (2, iV l2_16), (3, iV l3_22), (4, iV l4_27)] dX11_plans_160 (show 5 < 6 by decide) rfl ?_
                    refine x_goto (tgt := 74) dX11_plans_163 (by decide) ?_
                    exact x_sub [1, 2, 3, 4, 5, 0] rfl (hJ74 _ _ h)
                  · have h := h.2 (xz1 i67 k68)
                    refine x_aload_n 0 rfl dX11_plans_155 ?_
                    refine x_iload_n 2 rfl dX11_plans_156 ?_
                    obtain ⟨c69, h⟩ := h
                    refine x_callVv (As := [iV l2_16]) (rest := []) cal_X11_judge ins_X11_judge sel_X11_judge ly260 (by decide) rfl (xX11_judge x l2_16 _ _ c69 h) rfl ml_X11_283 (xRoom (Nat.le_of_ble_eq_true rfl)) (Nat.le_of_ble_eq_true rfl) dX11_plans_157 (fun μ70 n71 h => ?_)
                    have h := h n71
                    refine x_iinc 5 rfl [(5, iV (l5_32 + 1)), (0, .ref (x.2.2.1 + 260)), (1, iV p1), (2, iV l2_16), (3, iV l3_22), (4, iV l4_27)] dX11_plans_160 (show 5 < 6 by decide) rfl ?_
                    refine x_goto (tgt := 74) dX11_plans_163 (by decide) ?_
                    exact x_sub [1, 2, 3, 4, 5, 0] rfl (hJ74 _ _ h)
                · have h := h.2 (xz1 hp1 k63)
                  refine x_aload_n 0 rfl dX11_plans_140 ?_
                  refine x_iload_n 2 rfl dX11_plans_141 ?_
                  obtain ⟨c72, h⟩ := h
                  refine x_callVv (As := [iV l2_16]) (rest := []) cal_X11_wanted ins_X11_wanted sel_X11_wanted ly260 (by decide) rfl (xX11_wanted x l2_16 _ _ c72 h) rfl ml_X11_277 (xRoom (Nat.le_of_ble_eq_true rfl)) (Nat.le_of_ble_eq_true rfl) dX11_plans_142 (fun μ73 n74 h => ?_)
                  have h := h n74
                  refine x_goto (tgt := 160) dX11_plans_145 (by decide) ?_
                  refine x_iinc 5 rfl [(5, iV (l5_32 + 1)), (0, .ref (x.2.2.1 + 260)), (1, iV p1), (2, iV l2_16), (3, iV l3_22), (4, iV l4_27)] dX11_plans_160 (show 5 < 6 by decide) rfl ?_
                  refine x_goto (tgt := 74) dX11_plans_163 (by decide) ?_
                  exact x_sub [1, 2, 3, 4, 5, 0] rfl (hJ74 _ _ h)
              · have h := h.2 k53
                refine x_goto (tgt := 160) dX11_plans_110 (by decide) ?_
                refine x_iinc 5 rfl [(5, iV (l5_32 + 1)), (0, .ref (x.2.2.1 + 260)), (1, iV p1), (2, iV l2_16), (3, iV l3_22), (4, iV l4_27)] dX11_plans_160 (show 5 < 6 by decide) rfl ?_
                refine x_goto (tgt := 74) dX11_plans_163 (by decide) ?_
                exact x_sub [1, 2, 3, 4, 5, 0] rfl (hJ74 _ _ h)
  · have h := h.2 k21
    refine x_iload_n 2 rfl dX11_plans_37 ?_
    refine x_aload_n 0 rfl dX11_plans_38 ?_
    refine x_getR (j := 26) (r := 273) ly260 (by decide) rfl rfl (by decide) inT11 fl_X11_50 dX11_plans_39 ?_
    refine x_iload_n 3 rfl dX11_plans_42 ?_
    obtain ⟨c75, h⟩ := h
    refine x_iald ly273 c75.1 c75.2 (xIb (n := 26) c75 (by decide)) (by decide) dX11_plans_43 (fun r76 => ?_)
    refine x_iadd dX11_plans_44 ?_
    refine x_istore_n [(2, iV (l2_16 + (μ18 273 l3_17.toNat))), (0, .ref (x.2.2.1 + 260)), (1, iV p1), (3, iV l3_17)] dX11_plans_45 (show 2 < 6 by decide) rfl ?_
    refine x_iinc 3 rfl [(3, iV (l3_17 + 1)), (2, iV (l2_16 + (μ18 273 l3_17.toNat))), (0, .ref (x.2.2.1 + 260)), (1, iV p1)] dX11_plans_46 (show 3 < 6 by decide) rfl ?_
    refine x_goto (tgt := 31) dX11_plans_49 (by decide) ?_
    exact x_sub [2, 3, 1, 0] rfl (hJ31 _ _ _ h)
set_option maxRecDepth 100000 in
set_option maxHeartbeats 4000000 in
theorem xX11_laysPlans (x : xX) (p1 : Int) (μ : xM) (Q : Int → xM → Prop) (hp1 : p1 = 0 ∨ p1 = 1) (h : tX11_laysPlans p1 μ Q) : xMet x 5 yX11_laysPlans cX11_laysPlans 2 (some .boolean) [.ref (x.2.2.1 + 260), iV p1] μ (xQz x Q) := by
  refine xMet_of (by decide +kernel) (Nat.le_of_ble_eq_true rfl) ?_
  show xW x (xRm 5, RX11, cX11_laysPlans, 2, (some .boolean), fun _ _ => True) (xQz x Q) 0 [(0, .ref (x.2.2.1 + 260)), (1, iV p1)] [] μ
  refine x_ran (fun n0 => ?_)
  have h := h n0 hp1
  refine x_aload_n 0 rfl dX11_laysPlans_0 ?_
  refine x_getI (j := 14) ly260 (by decide) rfl rfl (by decide) inT11 fl_X11_164 dX11_laysPlans_1 (fun r1 => ?_)
  refine x_ifne (tgt := 9) r1  dX11_laysPlans_4 (by decide) (fun k2 => ?_) (fun k2 => ?_)
  · have h := h.1 k2
    refine x_aload_n 0 rfl dX11_laysPlans_9 ?_
    refine x_callVv (As := []) (rest := []) cal_X11_layLetters ins_X11_layLetters sel_X11_layLetters ly260 (by decide) rfl (xX11_layLetters x  _ _  h) rfl ml_X11_298 (xRoom (Nat.le_of_ble_eq_true rfl)) (Nat.le_of_ble_eq_true rfl) dX11_laysPlans_10 (fun μ3 n4 h => ?_)
    have h := h n4
    refine x_aload_n 0 rfl dX11_laysPlans_13 ?_
    refine x_iload_n 1 rfl dX11_laysPlans_14 ?_
    refine x_callVv (As := [iV p1]) (rest := []) cal_X11_plans ins_X11_plans sel_X11_plans ly260 (by decide) rfl (xX11_plans x p1 _ _ hp1 h) rfl ml_X11_301 (xRoom (Nat.le_of_ble_eq_true rfl)) (Nat.le_of_ble_eq_true rfl) dX11_laysPlans_15 (fun μ5 n6 h => ?_)
    have h := h n6
    refine x_iconst dX11_laysPlans_18 ?_
    exact x_zret h (Or.inr rfl) rfl dX11_laysPlans_19
  · have h := h.2 k2
    refine x_iconst dX11_laysPlans_7 ?_
    exact x_zret h (Or.inl rfl) rfl dX11_laysPlans_8
set_option maxRecDepth 100000 in
set_option maxHeartbeats 4000000 in
theorem xX11_most (x : xX)  (μ : xM) (Q : Int → xM → Prop)  (h : tX11_most  μ Q) : xMet x 6 yX11_most cX11_most 1 (some .int) [.ref (x.2.2.1 + 260)] μ (xQi x Q) := by
  refine xMet_of (by decide +kernel) (Nat.le_of_ble_eq_true rfl) ?_
  show xW x (xRm 6, RX11, cX11_most, 1, (some .int), fun _ _ => True) (xQi x Q) 0 [(0, .ref (x.2.2.1 + 260))] [] μ
  refine x_ran (fun n0 => ?_)
  have h := h n0 
  refine x_aload_n 0 rfl dX11_most_0 ?_
  refine x_callVv (As := []) (rest := []) cal_X11_good ins_X11_good sel_X11_good ly260 (by decide) rfl (xX11_good x  _ _  h) rfl ml_X11_155 (xRoom (Nat.le_of_ble_eq_true rfl)) (Nat.le_of_ble_eq_true rfl) dX11_most_1 (fun μ1 n2 h => ?_)
  have h := h n2
  refine x_aload_n 0 rfl dX11_most_4 ?_
  refine x_iconst dX11_most_5 ?_
  refine x_callVz (As := [iV 0]) (rest := []) cal_X11_laysPlans ins_X11_laysPlans sel_X11_laysPlans ly260 (by decide) rfl (xX11_laysPlans x 0 _ _ (Or.inl rfl) h) rfl ml_X11_305 (xRoom (Nat.le_of_ble_eq_true rfl)) (Nat.le_of_ble_eq_true rfl) dX11_most_6 (fun r5 μ3 i6 n4 h => ?_)
  have h := h i6 n4
  refine x_ifeq (tgt := 19) (xIz i6)  dX11_most_9 (by decide) (fun k7 => ?_) (fun k7 => ?_)
  · have h := h.1 k7
    refine x_aload_n 0 rfl dX11_most_19 ?_
    refine x_iconst dX11_most_20 ?_
    refine x_callVi (As := [iV 1]) (rest := []) cal_X11_no ins_X11_no sel_X11_no ly260 (by decide) rfl (xX11_no x 1 _ _ ⟨by decide, by decide⟩ h) rfl ml_X11_158 (xRoom (Nat.le_of_ble_eq_true rfl)) (Nat.le_of_ble_eq_true rfl) dX11_most_21 (fun r10 μ8 i11 n9 h => ?_)
    have h := h i11 n9
    exact x_iret h i11 rfl dX11_most_24
  · have h := h.2 (xz1 i6 k7)
    refine x_aload_n 0 rfl dX11_most_12 ?_
    refine x_getI (j := 29) ly260 (by decide) rfl rfl (by decide) inT11 fl_X11_258 dX11_most_13 (fun r12 => ?_)
    refine x_goto (tgt := 24) dX11_most_16 (by decide) ?_
    exact x_iret h r12 rfl dX11_most_24
set_option maxRecDepth 100000 in
set_option maxHeartbeats 4000000 in
theorem xX11_worth (x : xX)  (μ : xM) (Q : Int → xM → Prop)  (h : tX11_worth  μ Q) : xMet x 6 yX11_worth cX11_worth 1 (some .int) [.ref (x.2.2.1 + 260)] μ (xQi x Q) := by
  refine xMet_of (by decide +kernel) (Nat.le_of_ble_eq_true rfl) ?_
  show xW x (xRm 6, RX11, cX11_worth, 1, (some .int), fun _ _ => True) (xQi x Q) 0 [(0, .ref (x.2.2.1 + 260))] [] μ
  refine x_ran (fun n0 => ?_)
  have h := h n0 
  refine x_aload_n 0 rfl dX11_worth_0 ?_
  refine x_callVv (As := []) (rest := []) cal_X11_good ins_X11_good sel_X11_good ly260 (by decide) rfl (xX11_good x  _ _  h) rfl ml_X11_155 (xRoom (Nat.le_of_ble_eq_true rfl)) (Nat.le_of_ble_eq_true rfl) dX11_worth_1 (fun μ1 n2 h => ?_)
  have h := h n2
  refine x_aload_n 0 rfl dX11_worth_4 ?_
  refine x_iconst dX11_worth_5 ?_
  refine x_callVz (As := [iV 0]) (rest := []) cal_X11_laysPlans ins_X11_laysPlans sel_X11_laysPlans ly260 (by decide) rfl (xX11_laysPlans x 0 _ _ (Or.inl rfl) h) rfl ml_X11_305 (xRoom (Nat.le_of_ble_eq_true rfl)) (Nat.le_of_ble_eq_true rfl) dX11_worth_6 (fun r5 μ3 i6 n4 h => ?_)
  have h := h i6 n4
  refine x_ifeq (tgt := 19) (xIz i6)  dX11_worth_9 (by decide) (fun k7 => ?_) (fun k7 => ?_)
  · have h := h.1 k7
    refine x_aload_n 0 rfl dX11_worth_19 ?_
    refine x_iconst dX11_worth_20 ?_
    refine x_callVi (As := [iV 1]) (rest := []) cal_X11_no ins_X11_no sel_X11_no ly260 (by decide) rfl (xX11_no x 1 _ _ ⟨by decide, by decide⟩ h) rfl ml_X11_158 (xRoom (Nat.le_of_ble_eq_true rfl)) (Nat.le_of_ble_eq_true rfl) dX11_worth_21 (fun r10 μ8 i11 n9 h => ?_)
    have h := h i11 n9
    exact x_iret h i11 rfl dX11_worth_24
  · have h := h.2 (xz1 i6 k7)
    refine x_aload_n 0 rfl dX11_worth_12 ?_
    refine x_getI (j := 30) ly260 (by decide) rfl rfl (by decide) inT11 fl_X11_261 dX11_worth_13 (fun r12 => ?_)
    refine x_goto (tgt := 24) dX11_worth_16 (by decide) ?_
    exact x_iret h r12 rfl dX11_worth_24
set_option maxRecDepth 100000 in
set_option maxHeartbeats 4000000 in
theorem xX11_plan (x : xX) (p1 : Int) (μ : xM) (Q : Int → xM → Prop) (hp1 : xIn p1) (h : tX11_plan p1 μ Q) : xMet x 6 yX11_plan cX11_plan 2 (some .int) [.ref (x.2.2.1 + 260), iV p1] μ (xQi x Q) := by
  refine xMet_of (by decide +kernel) (Nat.le_of_ble_eq_true rfl) ?_
  show xW x (xRm 6, RX11, cX11_plan, 2, (some .int), fun _ _ => True) (xQi x Q) 0 [(0, .ref (x.2.2.1 + 260)), (1, iV p1)] [] μ
  refine x_ran (fun n0 => ?_)
  have h := h n0 hp1
  refine x_aload_n 0 rfl dX11_plan_0 ?_
  refine x_callVv (As := []) (rest := []) cal_X11_good ins_X11_good sel_X11_good ly260 (by decide) rfl (xX11_good x  _ _  h) rfl ml_X11_155 (xRoom (Nat.le_of_ble_eq_true rfl)) (Nat.le_of_ble_eq_true rfl) dX11_plan_1 (fun μ1 n2 h => ?_)
  have h := h n2
  refine x_aload_n 0 rfl dX11_plan_4 ?_
  refine x_iload_n 1 rfl dX11_plan_5 ?_
  refine x_callVz (As := [iV p1]) (rest := []) cal_X11_isTable ins_X11_isTable sel_X11_isTable ly260 (by decide) rfl (xX11_isTable x p1 _ _ hp1 h) rfl ml_X11_309 (xRoom (Nat.le_of_ble_eq_true rfl)) (Nat.le_of_ble_eq_true rfl) dX11_plan_6 (fun r5 μ3 i6 n4 h => ?_)
  have h := h i6 n4
  refine x_ifne (tgt := 18) (xIz i6)  dX11_plan_9 (by decide) (fun k7 => ?_) (fun k7 => ?_)
  · have h := h.1 (xz1 i6 k7)
    refine x_aload_n 0 rfl dX11_plan_18 ?_
    refine x_iconst dX11_plan_19 ?_
    refine x_callVz (As := [iV 0]) (rest := []) cal_X11_laysPlans ins_X11_laysPlans sel_X11_laysPlans ly260 (by decide) rfl (xX11_laysPlans x 0 _ _ (Or.inl rfl) h) rfl ml_X11_305 (xRoom (Nat.le_of_ble_eq_true rfl)) (Nat.le_of_ble_eq_true rfl) dX11_plan_20 (fun r10 μ8 i11 n9 h => ?_)
    have h := h i11 n9
    refine x_pop rfl dX11_plan_23 ?_
    refine x_aload_n 0 rfl dX11_plan_24 ?_
    refine x_getR (j := 27) (r := 274) ly260 (by decide) rfl rfl (by decide) inT11 fl_X11_53 dX11_plan_25 ?_
    refine x_iload_n 1 rfl dX11_plan_28 ?_
    obtain ⟨c12, h⟩ := h
    refine x_iald ly274 c12.1 c12.2 hp1 (by decide) dX11_plan_29 (fun r13 => ?_)
    refine x_bipush dX11_plan_30 (by decide) ?_
    refine x_icmpne (tgt := 40) r13 ⟨by decide, by decide⟩ dX11_plan_32 (by decide) (fun k14 => ?_) (fun k14 => ?_)
    · have h := h.1 k14
      refine x_aload_n 0 rfl dX11_plan_40 ?_
      refine x_getR (j := 27) (r := 274) ly260 (by decide) rfl rfl (by decide) inT11 fl_X11_53 dX11_plan_41 ?_
      refine x_iload_n 1 rfl dX11_plan_44 ?_
      refine x_iald ly274 c12.1 c12.2 hp1 (by decide) dX11_plan_45 (fun r15 => ?_)
      exact x_iret h r15 rfl dX11_plan_46
    · have h := h.2 k14
      refine x_bipush dX11_plan_35 (by decide) ?_
      refine x_goto (tgt := 46) dX11_plan_37 (by decide) ?_
      exact x_iret h ⟨by decide, by decide⟩ rfl dX11_plan_46
  · have h := h.2 k7
    refine x_aload_n 0 rfl dX11_plan_12 ?_
    refine x_iconst dX11_plan_13 ?_
    refine x_callVi (As := [iV 1]) (rest := []) cal_X11_no ins_X11_no sel_X11_no ly260 (by decide) rfl (xX11_no x 1 _ _ ⟨by decide, by decide⟩ h) rfl ml_X11_158 (xRoom (Nat.le_of_ble_eq_true rfl)) (Nat.le_of_ble_eq_true rfl) dX11_plan_14 (fun r18 μ16 i19 n17 h => ?_)
    have h := h i19 n17
    exact x_iret h i19 rfl dX11_plan_17
set_option maxRecDepth 100000 in
set_option maxHeartbeats 4000000 in
theorem xX11_richest (x : xX)  (μ : xM) (Q : Int → xM → Prop)  (h : tX11_richest  μ Q) : xMet x 6 yX11_richest cX11_richest 1 (some .int) [.ref (x.2.2.1 + 260)] μ (xQi x Q) := by
  refine xMet_of (by decide +kernel) (Nat.le_of_ble_eq_true rfl) ?_
  show xW x (xRm 6, RX11, cX11_richest, 1, (some .int), fun _ _ => True) (xQi x Q) 0 [(0, .ref (x.2.2.1 + 260))] [] μ
  refine x_ran (fun n0 => ?_)
  have h := h n0 
  refine x_aload_n 0 rfl dX11_richest_0 ?_
  refine x_callVv (As := []) (rest := []) cal_X11_good ins_X11_good sel_X11_good ly260 (by decide) rfl (xX11_good x  _ _  h) rfl ml_X11_155 (xRoom (Nat.le_of_ble_eq_true rfl)) (Nat.le_of_ble_eq_true rfl) dX11_richest_1 (fun μ1 n2 h => ?_)
  have h := h n2
  refine x_aload_n 0 rfl dX11_richest_4 ?_
  refine x_iconst dX11_richest_5 ?_
  refine x_callVz (As := [iV 0]) (rest := []) cal_X11_laysPlans ins_X11_laysPlans sel_X11_laysPlans ly260 (by decide) rfl (xX11_laysPlans x 0 _ _ (Or.inl rfl) h) rfl ml_X11_305 (xRoom (Nat.le_of_ble_eq_true rfl)) (Nat.le_of_ble_eq_true rfl) dX11_richest_6 (fun r5 μ3 i6 n4 h => ?_)
  have h := h i6 n4
  refine x_ifeq (tgt := 19) (xIz i6)  dX11_richest_9 (by decide) (fun k7 => ?_) (fun k7 => ?_)
  · have h := h.1 k7
    refine x_aload_n 0 rfl dX11_richest_19 ?_
    refine x_iconst dX11_richest_20 ?_
    refine x_callVi (As := [iV 1]) (rest := []) cal_X11_no ins_X11_no sel_X11_no ly260 (by decide) rfl (xX11_no x 1 _ _ ⟨by decide, by decide⟩ h) rfl ml_X11_158 (xRoom (Nat.le_of_ble_eq_true rfl)) (Nat.le_of_ble_eq_true rfl) dX11_richest_21 (fun r10 μ8 i11 n9 h => ?_)
    have h := h i11 n9
    exact x_iret h i11 rfl dX11_richest_24
  · have h := h.2 (xz1 i6 k7)
    refine x_aload_n 0 rfl dX11_richest_12 ?_
    refine x_getI (j := 31) ly260 (by decide) rfl rfl (by decide) inT11 fl_X11_264 dX11_richest_13 (fun r12 => ?_)
    refine x_goto (tgt := 24) dX11_richest_16 (by decide) ?_
    exact x_iret h r12 rfl dX11_richest_24
set_option maxRecDepth 100000 in
set_option maxHeartbeats 4000000 in
theorem xX11_fewest (x : xX)  (μ : xM) (Q : Int → xM → Prop)  (h : tX11_fewest  μ Q) : xMet x 6 yX11_fewest cX11_fewest 1 (some .int) [.ref (x.2.2.1 + 260)] μ (xQi x Q) := by
  refine xMet_of (by decide +kernel) (Nat.le_of_ble_eq_true rfl) ?_
  show xW x (xRm 6, RX11, cX11_fewest, 1, (some .int), fun _ _ => True) (xQi x Q) 0 [(0, .ref (x.2.2.1 + 260))] [] μ
  refine x_ran (fun n0 => ?_)
  have h := h n0 
  refine x_aload_n 0 rfl dX11_fewest_0 ?_
  refine x_callVv (As := []) (rest := []) cal_X11_good ins_X11_good sel_X11_good ly260 (by decide) rfl (xX11_good x  _ _  h) rfl ml_X11_155 (xRoom (Nat.le_of_ble_eq_true rfl)) (Nat.le_of_ble_eq_true rfl) dX11_fewest_1 (fun μ1 n2 h => ?_)
  have h := h n2
  refine x_aload_n 0 rfl dX11_fewest_4 ?_
  refine x_iconst dX11_fewest_5 ?_
  refine x_callVz (As := [iV 0]) (rest := []) cal_X11_laysPlans ins_X11_laysPlans sel_X11_laysPlans ly260 (by decide) rfl (xX11_laysPlans x 0 _ _ (Or.inl rfl) h) rfl ml_X11_305 (xRoom (Nat.le_of_ble_eq_true rfl)) (Nat.le_of_ble_eq_true rfl) dX11_fewest_6 (fun r5 μ3 i6 n4 h => ?_)
  have h := h i6 n4
  refine x_ifeq (tgt := 19) (xIz i6)  dX11_fewest_9 (by decide) (fun k7 => ?_) (fun k7 => ?_)
  · have h := h.1 k7
    refine x_aload_n 0 rfl dX11_fewest_19 ?_
    refine x_iconst dX11_fewest_20 ?_
    refine x_callVi (As := [iV 1]) (rest := []) cal_X11_no ins_X11_no sel_X11_no ly260 (by decide) rfl (xX11_no x 1 _ _ ⟨by decide, by decide⟩ h) rfl ml_X11_158 (xRoom (Nat.le_of_ble_eq_true rfl)) (Nat.le_of_ble_eq_true rfl) dX11_fewest_21 (fun r10 μ8 i11 n9 h => ?_)
    have h := h i11 n9
    exact x_iret h i11 rfl dX11_fewest_24
  · have h := h.2 (xz1 i6 k7)
    refine x_aload_n 0 rfl dX11_fewest_12 ?_
    refine x_getI (j := 32) ly260 (by decide) rfl rfl (by decide) inT11 fl_X11_267 dX11_fewest_13 (fun r12 => ?_)
    refine x_goto (tgt := 24) dX11_fewest_16 (by decide) ?_
    exact x_iret h r12 rfl dX11_fewest_24
set_option maxRecDepth 100000 in
set_option maxHeartbeats 4000000 in
theorem xX11_wanted_ (x : xX)  (μ : xM) (Q : Int → xM → Prop)  (h : tX11_wanted_  μ Q) : xMet x 6 yX11_wanted_ cX11_wanted_ 1 (some .int) [.ref (x.2.2.1 + 260)] μ (xQi x Q) := by
  refine xMet_of (by decide +kernel) (Nat.le_of_ble_eq_true rfl) ?_
  show xW x (xRm 6, RX11, cX11_wanted_, 1, (some .int), fun _ _ => True) (xQi x Q) 0 [(0, .ref (x.2.2.1 + 260))] [] μ
  refine x_ran (fun n0 => ?_)
  have h := h n0 
  refine x_aload_n 0 rfl dX11_wanted__0 ?_
  refine x_callVv (As := []) (rest := []) cal_X11_good ins_X11_good sel_X11_good ly260 (by decide) rfl (xX11_good x  _ _  h) rfl ml_X11_155 (xRoom (Nat.le_of_ble_eq_true rfl)) (Nat.le_of_ble_eq_true rfl) dX11_wanted__1 (fun μ1 n2 h => ?_)
  have h := h n2
  refine x_aload_n 0 rfl dX11_wanted__4 ?_
  refine x_iconst dX11_wanted__5 ?_
  refine x_callVz (As := [iV 1]) (rest := []) cal_X11_laysPlans ins_X11_laysPlans sel_X11_laysPlans ly260 (by decide) rfl (xX11_laysPlans x 1 _ _ (Or.inr rfl) h) rfl ml_X11_305 (xRoom (Nat.le_of_ble_eq_true rfl)) (Nat.le_of_ble_eq_true rfl) dX11_wanted__6 (fun r5 μ3 i6 n4 h => ?_)
  have h := h i6 n4
  refine x_ifeq (tgt := 19) (xIz i6)  dX11_wanted__9 (by decide) (fun k7 => ?_) (fun k7 => ?_)
  · have h := h.1 k7
    refine x_aload_n 0 rfl dX11_wanted__19 ?_
    refine x_iconst dX11_wanted__20 ?_
    refine x_callVi (As := [iV 1]) (rest := []) cal_X11_no ins_X11_no sel_X11_no ly260 (by decide) rfl (xX11_no x 1 _ _ ⟨by decide, by decide⟩ h) rfl ml_X11_158 (xRoom (Nat.le_of_ble_eq_true rfl)) (Nat.le_of_ble_eq_true rfl) dX11_wanted__21 (fun r10 μ8 i11 n9 h => ?_)
    have h := h i11 n9
    exact x_iret h i11 rfl dX11_wanted__24
  · have h := h.2 (xz1 i6 k7)
    refine x_aload_n 0 rfl dX11_wanted__12 ?_
    refine x_getI (j := 33) ly260 (by decide) rfl rfl (by decide) inT11 fl_X11_270 dX11_wanted__13 (fun r12 => ?_)
    refine x_goto (tgt := 24) dX11_wanted__16 (by decide) ?_
    exact x_iret h r12 rfl dX11_wanted__24
set_option maxRecDepth 100000 in
set_option maxHeartbeats 4000000 in
theorem xX11_wants (x : xX) (p1 : Int) (μ : xM) (Q : Int → xM → Prop) (hp1 : xIn p1) (h : tX11_wants p1 μ Q) : xMet x 6 yX11_wants cX11_wants 4 (some .int) [.ref (x.2.2.1 + 260), iV p1] μ (xQi x Q) := by
  refine xMet_of (by decide +kernel) (Nat.le_of_ble_eq_true rfl) ?_
  show xW x (xRm 6, RX11, cX11_wants, 4, (some .int), fun _ _ => True) (xQi x Q) 0 [(0, .ref (x.2.2.1 + 260)), (1, iV p1)] [] μ
  refine x_ran (fun n0 => ?_)
  have h := h n0 hp1
  refine x_aload_n 0 rfl dX11_wants_0 ?_
  refine x_callVv (As := []) (rest := []) cal_X11_good ins_X11_good sel_X11_good ly260 (by decide) rfl (xX11_good x  _ _  h) rfl ml_X11_155 (xRoom (Nat.le_of_ble_eq_true rfl)) (Nat.le_of_ble_eq_true rfl) dX11_wants_1 (fun μ1 n2 h => ?_)
  have h := h n2
  refine x_aload_n 0 rfl dX11_wants_4 ?_
  refine x_getI (j := 14) ly260 (by decide) rfl rfl (by decide) inT11 fl_X11_164 dX11_wants_5 (fun r3 => ?_)
  refine x_ifeq (tgt := 15) r3  dX11_wants_8 (by decide) (fun k4 => ?_) (fun k4 => ?_)
  · have h := h.1 k4
    refine x_aload_n 0 rfl dX11_wants_15 ?_
    refine x_iconst dX11_wants_16 ?_
    refine x_callVi (As := [iV 1]) (rest := []) cal_X11_no ins_X11_no sel_X11_no ly260 (by decide) rfl (xX11_no x 1 _ _ ⟨by decide, by decide⟩ h) rfl ml_X11_158 (xRoom (Nat.le_of_ble_eq_true rfl)) (Nat.le_of_ble_eq_true rfl) dX11_wants_17 (fun r7 μ5 i8 n6 h => ?_)
    have h := h i8 n6
    exact x_iret h i8 rfl dX11_wants_20
  · have h := h.2 k4
    refine x_iload_n 1 rfl dX11_wants_11 ?_
    refine x_ifge (tgt := 21) hp1  dX11_wants_12 (by decide) (fun k9 => ?_) (fun k9 => ?_)
    · have h := h.1 k9
      refine x_aload_n 0 rfl dX11_wants_21 ?_
      refine x_iconst dX11_wants_22 ?_
      refine x_callVz (As := [iV 1]) (rest := []) cal_X11_laysPlans ins_X11_laysPlans sel_X11_laysPlans ly260 (by decide) rfl (xX11_laysPlans x 1 _ _ (Or.inr rfl) h) rfl ml_X11_305 (xRoom (Nat.le_of_ble_eq_true rfl)) (Nat.le_of_ble_eq_true rfl) dX11_wants_23 (fun r12 μ10 i13 n11 h => ?_)
      have h := h i13 n11
      refine x_pop rfl dX11_wants_26 ?_
      refine x_aload_n 0 rfl dX11_wants_27 ?_
      refine x_getI (j := 33) ly260 (by decide) rfl rfl (by decide) inT11 fl_X11_270 dX11_wants_28 (fun r14 => ?_)
      refine x_bipush dX11_wants_31 (by decide) ?_
      refine x_icmpne (tgt := 43) r14 ⟨by decide, by decide⟩ dX11_wants_33 (by decide) (fun k15 => ?_) (fun k15 => ?_)
      · have h := h.1 k15
        refine x_iconst dX11_wants_43 ?_
        refine x_istore_n [(2, iV 0), (0, .ref (x.2.2.1 + 260)), (1, iV p1)] dX11_wants_44 (show 2 < 4 by decide) rfl ?_
        refine x_sub [1, 2, 0] rfl ?_
        refine x_loop1 (fun l2_16 => [(0, .ref (x.2.2.1 + 260)), (1, iV p1), (2, iV l2_16)]) h (fun J45 l2_16 μ17 hJ45 h n18 => ?_)
        refine x_iload_n 2 rfl dX11_wants_45 ?_
        refine x_iconst dX11_wants_46 ?_
        obtain ⟨c19, h⟩ := h
        refine x_icmpge (tgt := 68) c19 ⟨by decide, by decide⟩ dX11_wants_47 (by decide) (fun k20 => ?_) (fun k20 => ?_)
        · have h := h.1 k20
          refine x_aload_n 0 rfl dX11_wants_68 ?_
          refine x_callVz (As := []) (rest := []) cal_X11_addUp ins_X11_addUp sel_X11_addUp ly260 (by decide) rfl (xX11_addUp x  _ _  h) rfl ml_X11_280 (xRoom (Nat.le_of_ble_eq_true rfl)) (Nat.le_of_ble_eq_true rfl) dX11_wants_69 (fun r23 μ21 i24 n22 h => ?_)
          have h := h i24 n22
          refine x_pop rfl dX11_wants_72 ?_
          refine x_iload_n 1 rfl dX11_wants_73 ?_
          refine x_istore_n [(2, iV p1), (0, .ref (x.2.2.1 + 260)), (1, iV p1)] dX11_wants_74 (show 2 < 4 by decide) rfl ?_
          refine x_iconst dX11_wants_75 ?_
          refine x_istore_n [(3, iV 0), (2, iV p1), (0, .ref (x.2.2.1 + 260)), (1, iV p1)] dX11_wants_76 (show 3 < 4 by decide) rfl ?_
          refine x_sub [2, 1, 0] rfl ?_
          refine x_loop2 (fun l2_25 l3_26 => [(0, .ref (x.2.2.1 + 260)), (2, iV l2_25), (3, iV l3_26)]) h (fun J77 l2_25 l3_26 μ27 hJ77 h n28 => ?_)
          refine x_iload_n 2 rfl dX11_wants_77 ?_
          refine x_bipush dX11_wants_78 (by decide) ?_
          obtain ⟨c29, h⟩ := h
          refine x_icmpge (tgt := 124) c29 ⟨by decide, by decide⟩ dX11_wants_80 (by decide) (fun k30 => ?_) (fun k30 => ?_)
          · have h := h.1 k30
            refine x_aload_n 0 rfl dX11_wants_124 ?_
            refine x_iconst dX11_wants_125 ?_
            refine x_callVi (As := [iV 1]) (rest := []) cal_X11_no ins_X11_no sel_X11_no ly260 (by decide) rfl (xX11_no x 1 _ _ ⟨by decide, by decide⟩ h) rfl ml_X11_158 (xRoom (Nat.le_of_ble_eq_true rfl)) (Nat.le_of_ble_eq_true rfl) dX11_wants_126 (fun r33 μ31 i34 n32 h => ?_)
            have h := h i34 n32
            exact x_iret h i34 rfl dX11_wants_129
          · have h := h.2 k30
            refine x_iload_n 1 rfl dX11_wants_83 ?_
            refine x_aload_n 0 rfl dX11_wants_84 ?_
            refine x_getR (j := 25) (r := 272) ly260 (by decide) rfl rfl (by decide) inT11 fl_X11_47 dX11_wants_85 ?_
            refine x_iload_n 2 rfl dX11_wants_88 ?_
            obtain ⟨c35, h⟩ := h
            refine x_iald ly272 c35.1 c35.2 (xIb (n := 26) c35 (by decide)) (by decide) dX11_wants_89 (fun r36 => ?_)
            refine x_aload_n 0 rfl dX11_wants_90 ?_
            refine x_getR (j := 26) (r := 273) ly260 (by decide) rfl rfl (by decide) inT11 fl_X11_50 dX11_wants_91 ?_
            refine x_iload_n 2 rfl dX11_wants_94 ?_
            refine x_iald ly273 c35.1 c35.2 (xIb (n := 26) c35 (by decide)) (by decide) dX11_wants_95 (fun r37 => ?_)
            refine x_isub dX11_wants_96 ?_
            obtain ⟨c38, h⟩ := h
            obtain ⟨c39, h⟩ := h
            refine x_icmpge (tgt := 102) c38 c39 dX11_wants_97 (by decide) (fun k40 => ?_) (fun k40 => ?_)
            · have h := h.1 k40
              refine x_iload_n 1 rfl dX11_wants_102 ?_
              refine x_aload_n 0 rfl dX11_wants_103 ?_
              refine x_getR (j := 25) (r := 272) ly260 (by decide) rfl rfl (by decide) inT11 fl_X11_47 dX11_wants_104 ?_
              refine x_iload_n 2 rfl dX11_wants_107 ?_
              refine x_iald ly272 c35.1 c35.2 (xIb (n := 26) c35 (by decide)) (by decide) dX11_wants_108 (fun r41 => ?_)
              refine x_aload_n 0 rfl dX11_wants_109 ?_
              refine x_getR (j := 26) (r := 273) ly260 (by decide) rfl rfl (by decide) inT11 fl_X11_50 dX11_wants_110 ?_
              refine x_iload_n 2 rfl dX11_wants_113 ?_
              refine x_iald ly273 c35.1 c35.2 (xIb (n := 26) c35 (by decide)) (by decide) dX11_wants_114 (fun r42 => ?_)
              refine x_isub dX11_wants_115 ?_
              refine x_isub dX11_wants_116 ?_
              refine x_istore_n [(2, iV (l2_25 - ((μ27 272 l3_26.toNat) - (μ27 273 l3_26.toNat)))), (0, .ref (x.2.2.1 + 260)), (3, iV l3_26)] dX11_wants_117 (show 2 < 4 by decide) rfl ?_
              refine x_iinc 2 rfl [(3, iV (l3_26 + 1)), (2, iV (l2_25 - ((μ27 272 l3_26.toNat) - (μ27 273 l3_26.toNat)))), (0, .ref (x.2.2.1 + 260))] dX11_wants_118 (show 3 < 4 by decide) rfl ?_
              refine x_goto (tgt := 77) dX11_wants_121 (by decide) ?_
              exact x_sub [2, 1, 0] rfl (hJ77 _ _ _ h)
            · have h := h.2 k40
              refine x_iload_n 2 rfl dX11_wants_100 ?_
              exact x_iret h c29 rfl dX11_wants_101
        · have h := h.2 k20
          refine x_aload_n 0 rfl dX11_wants_50 ?_
          refine x_getR (j := 28) (r := 275) ly260 (by decide) rfl rfl (by decide) inT11 fl_X11_56 dX11_wants_51 ?_
          refine x_iload_n 2 rfl dX11_wants_54 ?_
          refine x_aload_n 0 rfl dX11_wants_55 ?_
          refine x_getR (j := 27) (r := 274) ly260 (by decide) rfl rfl (by decide) inT11 fl_X11_53 dX11_wants_56 ?_
          refine x_iload_n 2 rfl dX11_wants_59 ?_
          obtain ⟨c43, h⟩ := h
          refine x_iald ly274 c43.1 c43.2 (xIb (n := 3) c43 (by decide)) (by decide) dX11_wants_60 (fun r44 => ?_)
          refine x_iast ly275 c43.1 c43.2 (xIb (n := 3) c43 (by decide)) r44 (by decide) dX11_wants_61 (fun μ45 e47 n46 => ?_)
          have h := h μ45 e47 n46
          refine x_iinc 2 rfl [(2, iV (l2_16 + 1)), (0, .ref (x.2.2.1 + 260)), (1, iV p1)] dX11_wants_62 (show 2 < 4 by decide) rfl ?_
          refine x_goto (tgt := 45) dX11_wants_65 (by decide) ?_
          exact x_sub [1, 2, 0] rfl (hJ45 _ _ h)
      · have h := h.2 k15
        refine x_aload_n 0 rfl dX11_wants_36 ?_
        refine x_bipush dX11_wants_37 (by decide) ?_
        refine x_callVi (As := [iV 6]) (rest := []) cal_X11_no ins_X11_no sel_X11_no ly260 (by decide) rfl (xX11_no x 6 _ _ ⟨by decide, by decide⟩ h) rfl ml_X11_158 (xRoom (Nat.le_of_ble_eq_true rfl)) (Nat.le_of_ble_eq_true rfl) dX11_wants_39 (fun r50 μ48 i51 n49 h => ?_)
        have h := h i51 n49
        exact x_iret h i51 rfl dX11_wants_42
    · have h := h.2 k9
      refine x_aload_n 0 rfl dX11_wants_15 ?_
      refine x_iconst dX11_wants_16 ?_
      refine x_callVi (As := [iV 1]) (rest := []) cal_X11_no ins_X11_no sel_X11_no ly260 (by decide) rfl (xX11_no x 1 _ _ ⟨by decide, by decide⟩ h) rfl ml_X11_158 (xRoom (Nat.le_of_ble_eq_true rfl)) (Nat.le_of_ble_eq_true rfl) dX11_wants_17 (fun r54 μ52 i55 n53 h => ?_)
      have h := h i55 n53
      exact x_iret h i55 rfl dX11_wants_20
set_option maxRecDepth 100000 in
set_option maxHeartbeats 4000000 in
theorem xX11_gains (x : xX) (p1 : Int) (μ : xM) (Q : Int → xM → Prop) (hp1 : xIn p1) (h : tX11_gains p1 μ Q) : xMet x 6 yX11_gains cX11_gains 3 (some .int) [.ref (x.2.2.1 + 260), iV p1] μ (xQi x Q) := by
  refine xMet_of (by decide +kernel) (Nat.le_of_ble_eq_true rfl) ?_
  show xW x (xRm 6, RX11, cX11_gains, 3, (some .int), fun _ _ => True) (xQi x Q) 0 [(0, .ref (x.2.2.1 + 260)), (1, iV p1)] [] μ
  refine x_ran (fun n0 => ?_)
  have h := h n0 hp1
  refine x_aload_n 0 rfl dX11_gains_0 ?_
  refine x_callVv (As := []) (rest := []) cal_X11_good ins_X11_good sel_X11_good ly260 (by decide) rfl (xX11_good x  _ _  h) rfl ml_X11_155 (xRoom (Nat.le_of_ble_eq_true rfl)) (Nat.le_of_ble_eq_true rfl) dX11_gains_1 (fun μ1 n2 h => ?_)
  have h := h n2
  refine x_aload_n 0 rfl dX11_gains_4 ?_
  refine x_getI (j := 14) ly260 (by decide) rfl rfl (by decide) inT11 fl_X11_164 dX11_gains_5 (fun r3 => ?_)
  refine x_ifne (tgt := 17) r3  dX11_gains_8 (by decide) (fun k4 => ?_) (fun k4 => ?_)
  · have h := h.1 k4
    refine x_iload_n 1 rfl dX11_gains_17 ?_
    refine x_iconst dX11_gains_18 ?_
    refine x_bipush dX11_gains_19 (by decide) ?_
    refine x_callSz (As := [iV p1, iV 0, iV 25]) (rest := []) cal_X11_within sta_X11_within (xX11_within x p1 0 25 _ _ hp1 ⟨by decide, by decide⟩ ⟨by decide, by decide⟩ h) rfl ml_X11_143 (xRoom (Nat.le_of_ble_eq_true rfl)) (Nat.le_of_ble_eq_true rfl) dX11_gains_21 (fun r7 μ5 i8 n6 h => ?_)
    have h := h i8 n6
    refine x_ifne (tgt := 33) (xIz i8)  dX11_gains_24 (by decide) (fun k9 => ?_) (fun k9 => ?_)
    · have h := h.1 (xz1 i8 k9)
      refine x_aload_n 0 rfl dX11_gains_33 ?_
      refine x_iconst dX11_gains_34 ?_
      refine x_callVz (As := [iV 0]) (rest := []) cal_X11_laysPlans ins_X11_laysPlans sel_X11_laysPlans ly260 (by decide) rfl (xX11_laysPlans x 0 _ _ (Or.inl rfl) h) rfl ml_X11_305 (xRoom (Nat.le_of_ble_eq_true rfl)) (Nat.le_of_ble_eq_true rfl) dX11_gains_35 (fun r12 μ10 i13 n11 h => ?_)
      have h := h i13 n11
      refine x_pop rfl dX11_gains_38 ?_
      refine x_aload_n 0 rfl dX11_gains_39 ?_
      refine x_getI (j := 29) ly260 (by decide) rfl rfl (by decide) inT11 fl_X11_258 dX11_gains_40 (fun r14 => ?_)
      refine x_istore_n [(2, iV (μ10 260 29)), (0, .ref (x.2.2.1 + 260)), (1, iV p1)] dX11_gains_43 (show 2 < 3 by decide) rfl ?_
      refine x_aload_n 1 rfl dX11_gains_44 ?_
      refine x_getR (j := 26) (r := 273) ly260 (by decide) rfl rfl (by decide) inT11 fl_X11_50 dX11_gains_45 ?_
      refine x_iload_n 2 rfl dX11_gains_48 ?_
      refine x_dup2 rfl rfl dX11_gains_49 ?_
      obtain ⟨c15, h⟩ := h
      refine x_iald ly273 c15.1 c15.2 hp1 (by decide) dX11_gains_50 (fun r16 => ?_)
      refine x_iconst dX11_gains_51 ?_
      refine x_iadd dX11_gains_52 ?_
      obtain ⟨c17, h⟩ := h
      refine x_iast ly273 c15.1 c15.2 hp1 c17 (by decide) dX11_gains_53 (fun μ18 e20 n19 => ?_)
      have h := h μ18 e20 n19
      refine x_aload_n 1 rfl dX11_gains_54 ?_
      refine x_iconst dX11_gains_55 ?_
      refine x_callVv (As := [iV 0]) (rest := []) cal_X11_plans ins_X11_plans sel_X11_plans ly260 (by decide) rfl (xX11_plans x 0 _ _ (Or.inl rfl) h) rfl ml_X11_301 (xRoom (Nat.le_of_ble_eq_true rfl)) (Nat.le_of_ble_eq_true rfl) dX11_gains_56 (fun μ21 n22 h => ?_)
      have h := h n22
      refine x_aload_n 1 rfl dX11_gains_59 ?_
      refine x_getI (j := 29) ly260 (by decide) rfl rfl (by decide) inT11 fl_X11_258 dX11_gains_60 (fun r23 => ?_)
      refine x_iload_n 0 rfl dX11_gains_63 ?_
      refine x_isub dX11_gains_64 ?_
      obtain ⟨c24, h⟩ := h
      exact x_iret h c24 rfl dX11_gains_65
    · have h := h.2 k9
      refine x_aload_n 0 rfl dX11_gains_27 ?_
      refine x_iconst dX11_gains_28 ?_
      refine x_callVi (As := [iV 2]) (rest := []) cal_X11_no ins_X11_no sel_X11_no ly260 (by decide) rfl (xX11_no x 2 _ _ ⟨by decide, by decide⟩ h) rfl ml_X11_158 (xRoom (Nat.le_of_ble_eq_true rfl)) (Nat.le_of_ble_eq_true rfl) dX11_gains_29 (fun r27 μ25 i28 n26 h => ?_)
      have h := h i28 n26
      exact x_iret h i28 rfl dX11_gains_32
  · have h := h.2 k4
    refine x_aload_n 0 rfl dX11_gains_11 ?_
    refine x_iconst dX11_gains_12 ?_
    refine x_callVi (As := [iV 1]) (rest := []) cal_X11_no ins_X11_no sel_X11_no ly260 (by decide) rfl (xX11_no x 1 _ _ ⟨by decide, by decide⟩ h) rfl ml_X11_158 (xRoom (Nat.le_of_ble_eq_true rfl)) (Nat.le_of_ble_eq_true rfl) dX11_gains_13 (fun r31 μ29 i32 n30 h => ?_)
    have h := h i32 n30
    exact x_iret h i32 rfl dX11_gains_16
set_option maxRecDepth 100000 in
set_option maxHeartbeats 4000000 in
theorem xX11_night (x : xX) (p1 : Int) (μ : xM) (Q : Int → xM → Prop) (hp1 : xIn p1) (h : tX11_night p1 μ Q) : xMet x 2 yX11_night cX11_night 2 (some .boolean) [.ref (x.2.2.1 + 260), iV p1] μ (xQz x Q) := by
  refine xMet_of (by decide +kernel) (Nat.le_of_ble_eq_true rfl) ?_
  show xW x (xRm 2, RX11, cX11_night, 2, (some .boolean), fun _ _ => True) (xQz x Q) 0 [(0, .ref (x.2.2.1 + 260)), (1, iV p1)] [] μ
  refine x_ran (fun n0 => ?_)
  have h := h n0 hp1
  refine x_aload_n 0 rfl dX11_night_0 ?_
  refine x_callVv (As := []) (rest := []) cal_X11_good ins_X11_good sel_X11_good ly260 (by decide) rfl (xX11_good x  _ _  h) rfl ml_X11_155 (xRoom (Nat.le_of_ble_eq_true rfl)) (Nat.le_of_ble_eq_true rfl) dX11_night_1 (fun μ1 n2 h => ?_)
  have h := h n2
  refine x_aload_n 0 rfl dX11_night_4 ?_
  refine x_getI (j := 14) ly260 (by decide) rfl rfl (by decide) inT11 fl_X11_164 dX11_night_5 (fun r3 => ?_)
  refine x_ifeq (tgt := 20) r3  dX11_night_8 (by decide) (fun k4 => ?_) (fun k4 => ?_)
  · have h := h.1 k4
    refine x_aload_n 0 rfl dX11_night_20 ?_
    refine x_iconst dX11_night_21 ?_
    refine x_callVz (As := [iV 1]) (rest := []) cal_X11_isNot ins_X11_isNot sel_X11_isNot ly260 (by decide) rfl (xX11_isNot x 1 _ _ ⟨by decide, by decide⟩ h) rfl ml_X11_312 (xRoom (Nat.le_of_ble_eq_true rfl)) (Nat.le_of_ble_eq_true rfl) dX11_night_22 (fun r7 μ5 i8 n6 h => ?_)
    have h := h i8 n6
    exact x_zret h i8 rfl dX11_night_25
  · have h := h.2 k4
    refine x_iload_n 1 rfl dX11_night_11 ?_
    refine x_iconst dX11_night_12 ?_
    refine x_iconst dX11_night_13 ?_
    refine x_callSz (As := [iV p1, iV 0, iV 3]) (rest := []) cal_X11_within sta_X11_within (xX11_within x p1 0 3 _ _ hp1 ⟨by decide, by decide⟩ ⟨by decide, by decide⟩ h) rfl ml_X11_143 (xRoom (Nat.le_of_ble_eq_true rfl)) (Nat.le_of_ble_eq_true rfl) dX11_night_14 (fun r11 μ9 i12 n10 h => ?_)
    have h := h i12 n10
    refine x_ifne (tgt := 26) (xIz i12)  dX11_night_17 (by decide) (fun k13 => ?_) (fun k13 => ?_)
    · have h := h.1 (xz1 i12 k13)
      refine x_aload_n 0 rfl dX11_night_26 ?_
      refine x_iload_n 1 rfl dX11_night_27 ?_
      refine x_callVv (As := [iV p1]) (rest := []) cal_X11_begin ins_X11_begin sel_X11_begin ly260 (by decide) rfl (xX11_begin x p1 _ _ hp1 h) rfl ml_X11_170 (xRoom (Nat.le_of_ble_eq_true rfl)) (Nat.le_of_ble_eq_true rfl) dX11_night_28 (fun μ14 n15 h => ?_)
      have h := h n15
      refine x_iconst dX11_night_31 ?_
      exact x_zret h (Or.inr rfl) rfl dX11_night_32
    · have h := h.2 k13
      refine x_aload_n 0 rfl dX11_night_20 ?_
      refine x_iconst dX11_night_21 ?_
      refine x_callVz (As := [iV 1]) (rest := []) cal_X11_isNot ins_X11_isNot sel_X11_isNot ly260 (by decide) rfl (xX11_isNot x 1 _ _ ⟨by decide, by decide⟩ h) rfl ml_X11_312 (xRoom (Nat.le_of_ble_eq_true rfl)) (Nat.le_of_ble_eq_true rfl) dX11_night_22 (fun r18 μ16 i19 n17 h => ?_)
      have h := h i19 n17
      exact x_zret h i19 rfl dX11_night_25
set_option maxRecDepth 100000 in
set_option maxHeartbeats 4000000 in
theorem xX11_code (x : xX)  (μ : xM) (Q : Int → xM → Prop)  (h : tX11_code  μ Q) : xMet x 1 yX11_code cX11_code 1 (some .int) [.ref (x.2.2.1 + 260)] μ (xQi x Q) := by
  refine xMet_of (by decide +kernel) (Nat.le_of_ble_eq_true rfl) ?_
  show xW x (xRm 1, RX11, cX11_code, 1, (some .int), fun _ _ => True) (xQi x Q) 0 [(0, .ref (x.2.2.1 + 260))] [] μ
  refine x_ran (fun n0 => ?_)
  have h := h n0 
  refine x_aload_n 0 rfl dX11_code_0 ?_
  refine x_getR (j := 17) (r := 265) ly260 (by decide) rfl rfl (by decide) inT11 fl_X11_26 dX11_code_1 ?_
  refine x_iconst dX11_code_4 ?_
  refine x_iald ly265 (by decide) (by decide) ⟨by decide, by decide⟩ (by decide) dX11_code_5 (fun r1 => ?_)
  refine x_bipush dX11_code_6 (by decide) ?_
  refine x_aload_n 0 rfl dX11_code_8 ?_
  refine x_getR (j := 17) (r := 265) ly260 (by decide) rfl rfl (by decide) inT11 fl_X11_26 dX11_code_9 ?_
  refine x_iconst dX11_code_12 ?_
  refine x_iald ly265 (by decide) (by decide) ⟨by decide, by decide⟩ (by decide) dX11_code_13 (fun r2 => ?_)
  refine x_imul dX11_code_14 ?_
  refine x_iadd dX11_code_15 ?_
  refine x_sipush dX11_code_16 (by decide) ?_
  refine x_aload_n 0 rfl dX11_code_19 ?_
  refine x_getR (j := 17) (r := 265) ly260 (by decide) rfl rfl (by decide) inT11 fl_X11_26 dX11_code_20 ?_
  refine x_iconst dX11_code_23 ?_
  refine x_iald ly265 (by decide) (by decide) ⟨by decide, by decide⟩ (by decide) dX11_code_24 (fun r3 => ?_)
  refine x_imul dX11_code_25 ?_
  refine x_iadd dX11_code_26 ?_
  obtain ⟨c4, h⟩ := h
  exact x_iret h c4 rfl dX11_code_27
set_option maxRecDepth 100000 in
set_option maxHeartbeats 4000000 in
theorem xX11_wordOf (x : xX) (p1 : Int) (p2 : Int) (μ : xM) (Q : Int → xM → Prop) (hp1 : xIn p1) (hp2 : xIn p2) (h : tX11_wordOf p1 p2 μ Q) : xMet x 1 yX11_wordOf cX11_wordOf 2 (some .int) [iV p1, iV p2] μ (xQi x Q) := by
  refine xMet_of (by decide +kernel) (Nat.le_of_ble_eq_true rfl) ?_
  show xW x (xRm 1, RX11, cX11_wordOf, 2, (some .int), fun _ _ => True) (xQi x Q) 0 [(0, iV p1), (1, iV p2)] [] μ
  refine x_ran (fun n0 => ?_)
  have h := h n0 hp1 hp2
  refine x_iload_n 1 rfl dX11_wordOf_0 ?_
  refine x_ifne (tgt := 11) hp2  dX11_wordOf_1 (by decide) (fun k1 => ?_) (fun k1 => ?_)
  · have h := h.1 k1
    refine x_iload_n 1 rfl dX11_wordOf_11 ?_
    refine x_iconst dX11_wordOf_12 ?_
    refine x_icmpne (tgt := 26) hp2 ⟨by decide, by decide⟩ dX11_wordOf_13 (by decide) (fun k2 => ?_) (fun k2 => ?_)
    · have h := h.1 k2
      refine x_iload_n 0 rfl dX11_wordOf_26 ?_
      refine x_sipush dX11_wordOf_27 (by decide) ?_
      refine x_idiv hp1 ⟨by decide, by decide⟩ (by decide) dX11_wordOf_30 ?_
      obtain ⟨c3, h⟩ := h
      exact x_iret h c3 rfl dX11_wordOf_31
    · have h := h.2 k2
      refine x_iload_n 0 rfl dX11_wordOf_16 ?_
      refine x_bipush dX11_wordOf_17 (by decide) ?_
      refine x_idiv hp1 ⟨by decide, by decide⟩ (by decide) dX11_wordOf_19 ?_
      refine x_bipush dX11_wordOf_20 (by decide) ?_
      obtain ⟨c4, h⟩ := h
      refine x_irem c4 ⟨by decide, by decide⟩ (by decide) dX11_wordOf_22 ?_
      refine x_goto (tgt := 31) dX11_wordOf_23 (by decide) ?_
      obtain ⟨c5, h⟩ := h
      exact x_iret h c5 rfl dX11_wordOf_31
  · have h := h.2 k1
    refine x_iload_n 0 rfl dX11_wordOf_4 ?_
    refine x_bipush dX11_wordOf_5 (by decide) ?_
    refine x_irem hp1 ⟨by decide, by decide⟩ (by decide) dX11_wordOf_7 ?_
    refine x_goto (tgt := 31) dX11_wordOf_8 (by decide) ?_
    obtain ⟨c6, h⟩ := h
    exact x_iret h c6 rfl dX11_wordOf_31
set_option maxRecDepth 100000 in
set_option maxHeartbeats 4000000 in
theorem xX11_withWord (x : xX) (p1 : Int) (p2 : Int) (p3 : Int) (μ : xM) (Q : Int → xM → Prop) (hp1 : xIn p1) (hp2 : xIn p2) (hp3 : xIn p3) (h : tX11_withWord p1 p2 p3 μ Q) : xMet x 2 yX11_withWord cX11_withWord 4 (some .int) [iV p1, iV p2, iV p3] μ (xQi x Q) := by
  refine xMet_of (by decide +kernel) (Nat.le_of_ble_eq_true rfl) ?_
  show xW x (xRm 2, RX11, cX11_withWord, 4, (some .int), fun _ _ => True) (xQi x Q) 0 [(0, iV p1), (1, iV p2), (2, iV p3)] [] μ
  refine x_ran (fun n0 => ?_)
  have h := h n0 hp1 hp2 hp3
  refine x_iload_n 1 rfl dX11_withWord_0 ?_
  refine x_ifne (tgt := 8) hp2  dX11_withWord_1 (by decide) (fun k1 => ?_) (fun k1 => ?_)
  · have h := h.1 k1
    refine x_iload_n 1 rfl dX11_withWord_8 ?_
    refine x_iconst dX11_withWord_9 ?_
    refine x_icmpne (tgt := 18) hp2 ⟨by decide, by decide⟩ dX11_withWord_10 (by decide) (fun k2 => ?_) (fun k2 => ?_)
    · have h := h.1 k2
      refine x_sipush dX11_withWord_18 (by decide) ?_
      refine x_istore_n [(3, iV 625), (0, iV p1), (1, iV p2), (2, iV p3)] dX11_withWord_21 (show 3 < 4 by decide) rfl ?_
      refine x_iload_n 1 rfl dX11_withWord_22 ?_
      refine x_iload_n 3 rfl dX11_withWord_23 ?_
      refine x_iload_n 1 rfl dX11_withWord_24 ?_
      refine x_iload_n 2 rfl dX11_withWord_25 ?_
      refine x_callSi (As := [iV p1, iV p2]) (rest := [iV p3, iV p1]) cal_X11_wordOf sta_X11_wordOf (xX11_wordOf x p1 p2 _ _ hp1 hp2 h) rfl ml_X11_315 (xRoom (Nat.le_of_ble_eq_true rfl)) (Nat.le_of_ble_eq_true rfl) dX11_withWord_26 (fun r5 μ3 i6 n4 h => ?_)
      have h := h i6 n4
      refine x_isub dX11_withWord_29 ?_
      refine x_iload_n 0 rfl dX11_withWord_30 ?_
      refine x_imul dX11_withWord_31 ?_
      refine x_iadd dX11_withWord_32 ?_
      obtain ⟨c7, h⟩ := h
      exact x_iret h c7 rfl dX11_withWord_33
    · have h := h.2 k2
      refine x_bipush dX11_withWord_13 (by decide) ?_
      refine x_goto (tgt := 21) dX11_withWord_15 (by decide) ?_
      refine x_istore_n [(3, iV 25), (0, iV p1), (1, iV p2), (2, iV p3)] dX11_withWord_21 (show 3 < 4 by decide) rfl ?_
      refine x_iload_n 1 rfl dX11_withWord_22 ?_
      refine x_iload_n 3 rfl dX11_withWord_23 ?_
      refine x_iload_n 1 rfl dX11_withWord_24 ?_
      refine x_iload_n 2 rfl dX11_withWord_25 ?_
      refine x_callSi (As := [iV p1, iV p2]) (rest := [iV p3, iV p1]) cal_X11_wordOf sta_X11_wordOf (xX11_wordOf x p1 p2 _ _ hp1 hp2 h) rfl ml_X11_315 (xRoom (Nat.le_of_ble_eq_true rfl)) (Nat.le_of_ble_eq_true rfl) dX11_withWord_26 (fun r10 μ8 i11 n9 h => ?_)
      have h := h i11 n9
      refine x_isub dX11_withWord_29 ?_
      refine x_iload_n 0 rfl dX11_withWord_30 ?_
      refine x_imul dX11_withWord_31 ?_
      refine x_iadd dX11_withWord_32 ?_
      obtain ⟨c12, h⟩ := h
      exact x_iret h c12 rfl dX11_withWord_33
  · have h := h.2 k1
    refine x_iconst dX11_withWord_4 ?_
    refine x_goto (tgt := 21) dX11_withWord_5 (by decide) ?_
    refine x_istore_n [(3, iV 1), (0, iV p1), (1, iV p2), (2, iV p3)] dX11_withWord_21 (show 3 < 4 by decide) rfl ?_
    refine x_iload_n 1 rfl dX11_withWord_22 ?_
    refine x_iload_n 3 rfl dX11_withWord_23 ?_
    refine x_iload_n 1 rfl dX11_withWord_24 ?_
    refine x_iload_n 2 rfl dX11_withWord_25 ?_
    refine x_callSi (As := [iV p1, iV p2]) (rest := [iV p3, iV p1]) cal_X11_wordOf sta_X11_wordOf (xX11_wordOf x p1 p2 _ _ hp1 hp2 h) rfl ml_X11_315 (xRoom (Nat.le_of_ble_eq_true rfl)) (Nat.le_of_ble_eq_true rfl) dX11_withWord_26 (fun r15 μ13 i16 n14 h => ?_)
    have h := h i16 n14
    refine x_isub dX11_withWord_29 ?_
    refine x_iload_n 0 rfl dX11_withWord_30 ?_
    refine x_imul dX11_withWord_31 ?_
    refine x_iadd dX11_withWord_32 ?_
    obtain ⟨c17, h⟩ := h
    exact x_iret h c17 rfl dX11_withWord_33
set_option maxRecDepth 100000 in
set_option maxHeartbeats 4000000 in
theorem xX11_empty (x : xX)  (μ : xM) (Q : Int → xM → Prop)  (h : tX11_empty  μ Q) : xMet x 1 yX11_empty cX11_empty 0 (some .int) [] μ (xQi x Q) := by
  refine xMet_of (by decide +kernel) (Nat.le_of_ble_eq_true rfl) ?_
  show xW x (xRm 1, RX11, cX11_empty, 0, (some .int), fun _ _ => True) (xQi x Q) 0 [] [] μ
  refine x_ran (fun n0 => ?_)
  have h := h n0 
  refine x_sipush dX11_empty_0 (by decide) ?_
  exact x_iret h ⟨by decide, by decide⟩ rfl dX11_empty_3
set_option maxRecDepth 100000 in
set_option maxHeartbeats 4000000 in
theorem xX11_wordAfter (x : xX) (p1 : Int) (p2 : Int) (p3 : Int) (p4 : Int) (μ : xM) (Q : Int → xM → Prop) (hp1 : xIn p1) (hp2 : xIn p2) (hp3 : xIn p3) (hp4 : xIn p4) (h : tX11_wordAfter p1 p2 p3 p4 μ Q) : xMet x 3 yX11_wordAfter cX11_wordAfter 5 (some .int) [.ref (x.2.2.1 + 260), iV p1, iV p2, iV p3, iV p4] μ (xQi x Q) := by
  refine xMet_of (by decide +kernel) (Nat.le_of_ble_eq_true rfl) ?_
  show xW x (xRm 3, RX11, cX11_wordAfter, 5, (some .int), fun _ _ => True) (xQi x Q) 0 [(0, .ref (x.2.2.1 + 260)), (1, iV p1), (2, iV p2), (3, iV p3), (4, iV p4)] [] μ
  refine x_ran (fun n0 => ?_)
  have h := h n0 hp1 hp2 hp3 hp4
  refine x_aload_n 0 rfl dX11_wordAfter_0 ?_
  refine x_getR (j := 20) (r := 267) ly260 (by decide) rfl rfl (by decide) inT11 fl_X11_32 dX11_wordAfter_1 ?_
  refine x_bipush dX11_wordAfter_4 (by decide) ?_
  refine x_iload_n 1 rfl dX11_wordAfter_6 ?_
  refine x_iload_n 2 rfl dX11_wordAfter_7 ?_
  refine x_callSi (As := [iV p1, iV p2]) (rest := [iV 24, .ref (x.2.2.1 + 267)]) cal_X11_wordOf sta_X11_wordOf (xX11_wordOf x p1 p2 _ _ hp1 hp2 h) rfl ml_X11_315 (xRoom (Nat.le_of_ble_eq_true rfl)) (Nat.le_of_ble_eq_true rfl) dX11_wordAfter_8 (fun r3 μ1 i4 n2 h => ?_)
  have h := h i4 n2
  refine x_imul dX11_wordAfter_11 ?_
  refine x_iload_n 3 rfl dX11_wordAfter_12 ?_
  refine x_iadd dX11_wordAfter_13 ?_
  obtain ⟨c5, h⟩ := h
  refine x_iald ly267 c5.1 c5.2 (xIb (n := 600) c5 (by decide)) (by decide) dX11_wordAfter_14 (fun r6 => ?_)
  refine x_iload 4 rfl dX11_wordAfter_15 ?_
  refine x_icmpne (tgt := 29) r6 hp4 dX11_wordAfter_17 (by decide) (fun k7 => ?_) (fun k7 => ?_)
  · have h := h.1 k7
    refine x_iconst dX11_wordAfter_29 ?_
    exact x_iret h ⟨by decide, by decide⟩ rfl dX11_wordAfter_30
  · have h := h.2 k7
    refine x_iload_n 1 rfl dX11_wordAfter_20 ?_
    refine x_iload_n 2 rfl dX11_wordAfter_21 ?_
    refine x_iload_n 3 rfl dX11_wordAfter_22 ?_
    refine x_callSi (As := [iV p1, iV p2, iV p3]) (rest := []) cal_X11_withWord sta_X11_withWord (xX11_withWord x p1 p2 p3 _ _ hp1 hp2 hp3 h) rfl ml_X11_318 (xRoom (Nat.le_of_ble_eq_true rfl)) (Nat.le_of_ble_eq_true rfl) dX11_wordAfter_23 (fun r10 μ8 i11 n9 h => ?_)
    have h := h i11 n9
    refine x_goto (tgt := 30) dX11_wordAfter_26 (by decide) ?_
    exact x_iret h i11 rfl dX11_wordAfter_30
set_option maxRecDepth 100000 in
set_option maxHeartbeats 4000000 in
theorem xX11_forget (x : xX)  (μ : xM) (Q : xM → Prop)  (h : tX11_forget  μ Q) : xMet x 1 yX11_forget cX11_forget 2 none [.ref (x.2.2.1 + 260)] μ (xQv x Q) := by
  refine xMet_of (by decide +kernel) (Nat.le_of_ble_eq_true rfl) ?_
  show xW x (xRm 1, RX11, cX11_forget, 2, none, fun _ _ => True) (xQv x Q) 0 [(0, .ref (x.2.2.1 + 260))] [] μ
  refine x_ran (fun n0 => ?_)
  have h := h n0 
  refine x_iconst dX11_forget_0 ?_
  refine x_istore_n [(1, iV 0), (0, .ref (x.2.2.1 + 260))] dX11_forget_1 (show 1 < 2 by decide) rfl ?_
  refine x_sub [1, 0] rfl ?_
  refine x_loop1 (fun l1_1 => [(0, .ref (x.2.2.1 + 260)), (1, iV l1_1)]) h (fun J2 l1_1 μ2 hJ2 h n3 => ?_)
  refine x_iload_n 1 rfl dX11_forget_2 ?_
  refine x_ldc (n := 140625) cn_X11_59 dX11_forget_3 ?_
  obtain ⟨c4, h⟩ := h
  refine x_icmpge (tgt := 21) c4 ⟨by decide, by decide⟩ dX11_forget_5 (by decide) (fun k5 => ?_) (fun k5 => ?_)
  · have h := h.1 k5
    exact x_vret h rfl dX11_forget_21
  · have h := h.2 k5
    refine x_aload_n 0 rfl dX11_forget_8 ?_
    refine x_getR (j := 34) (r := 276) ly260 (by decide) rfl rfl (by decide) inT11 fl_X11_60 dX11_forget_9 ?_
    refine x_iload_n 1 rfl dX11_forget_12 ?_
    refine x_iconst dX11_forget_13 ?_
    obtain ⟨c6, h⟩ := h
    refine x_iast ly276 c6.1 c6.2 (xIb (n := 140625) c6 (by decide)) ⟨by decide, by decide⟩ (by decide) dX11_forget_14 (fun μ7 e9 n8 => ?_)
    have h := h μ7 e9 n8
    refine x_iinc 1 rfl [(1, iV (l1_1 + 1)), (0, .ref (x.2.2.1 + 260))] dX11_forget_15 (show 1 < 2 by decide) rfl ?_
    refine x_goto (tgt := 2) dX11_forget_18 (by decide) ?_
    exact x_sub [1, 0] rfl (hJ2 _ _ h)
set_option maxRecDepth 100000 in
set_option maxHeartbeats 4000000 in
theorem xX11_mostOf_body (x : xX) (F : Int → Int → xM → (Int → xM → Prop) → Prop) (p1 : Int) (p2 : Int) (μ : xM) (Q : Int → xM → Prop) (hp1 : xIn p1) (hp2 : xIn p2) (dF : Nat) (hF : ∀ (q0 q1 : Int) (μ : xM) (Q : Int → xM → Prop), xIn q0 → xIn q1 → F q0 q1 μ Q → xMet x dF yX11_mostOf cX11_mostOf 9 (some .int) [.ref (x.2.2.1 + 260), iV q0, iV q1] μ (xQi x Q)) (dM : Nat) (hdM : 4 ≤ dM) (hdF : dF + 2 ≤ dM) (h : tX11_mostOf_body F p1 p2 μ Q) : xMet x dM yX11_mostOf cX11_mostOf 9 (some .int) [.ref (x.2.2.1 + 260), iV p1, iV p2] μ (xQi x Q) := by
  refine xMet_of (by decide +kernel) (Nat.le_of_ble_eq_true rfl) ?_
  show xW x (xRm dM, RX11, cX11_mostOf, 9, (some .int), fun _ _ => True) (xQi x Q) 0 [(0, .ref (x.2.2.1 + 260)), (1, iV p1), (2, iV p2)] [] μ
  refine x_ran (fun n0 => ?_)
  have h := h n0 hp1 hp2
  refine x_iload_n 1 rfl dX11_mostOf_0 ?_
  refine x_aload_n 0 rfl dX11_mostOf_1 ?_
  refine x_getR (j := 15) (r := 263) ly260 (by decide) rfl rfl (by decide) inT11 fl_X11_20 dX11_mostOf_2 ?_
  refine x_iconst dX11_mostOf_5 ?_
  refine x_iald ly263 (by decide) (by decide) ⟨by decide, by decide⟩ (by decide) dX11_mostOf_6 (fun r1 => ?_)
  refine x_icmpne (tgt := 12) hp1 r1 dX11_mostOf_7 (by decide) (fun k2 => ?_) (fun k2 => ?_)
  · have h := h.1 k2
    refine x_sipush dX11_mostOf_12 (by decide) ?_
    refine x_iload_n 1 rfl dX11_mostOf_15 ?_
    refine x_imul dX11_mostOf_16 ?_
    refine x_iload_n 2 rfl dX11_mostOf_17 ?_
    refine x_iadd dX11_mostOf_18 ?_
    refine x_istore_n [(3, iV ((15625 * p1) + p2)), (0, .ref (x.2.2.1 + 260)), (1, iV p1), (2, iV p2)] dX11_mostOf_19 (show 3 < 9 by decide) rfl ?_
    refine x_aload_n 1 rfl dX11_mostOf_20 ?_
    refine x_getR (j := 34) (r := 276) ly260 (by decide) rfl rfl (by decide) inT11 fl_X11_60 dX11_mostOf_21 ?_
    refine x_iload_n 0 rfl dX11_mostOf_24 ?_
    obtain ⟨c3, h⟩ := h
    refine x_iald ly276 c3.1 c3.2 (xIb (n := 140625) c3 (by decide)) (by decide) dX11_mostOf_25 (fun r4 => ?_)
    refine x_iflt (tgt := 36) r4  dX11_mostOf_26 (by decide) (fun k5 => ?_) (fun k5 => ?_)
    · have h := h.1 k5
      refine x_aload_n 1 rfl dX11_mostOf_36 ?_
      refine x_iload_n 2 rfl dX11_mostOf_37 ?_
      refine x_iconst dX11_mostOf_38 ?_
      refine x_iadd dX11_mostOf_39 ?_
      refine x_iload_n 3 rfl dX11_mostOf_40 ?_
      obtain ⟨c6, h⟩ := h
      refine x_callVi (As := [iV (p1 + 1), iV p2]) (rest := []) cal_X11_mostOf ins_X11_mostOf sel_X11_mostOf ly260 (by decide) rfl (hF (p1 + 1) p2 _ _ c6 hp2 h) rfl ml_X11_322 (xRoom (show dF + 1 ≤ dM by omega)) (Nat.le_of_ble_eq_true rfl) dX11_mostOf_41 (fun r9 μ7 i10 n8 h => ?_)
      have h := h i10 n8
      refine x_istore [(4, iV r9), (3, iV ((15625 * p1) + p2)), (0, .ref (x.2.2.1 + 260)), (1, iV p1), (2, iV p2)] dX11_mostOf_44 (show 4 < 9 by decide) rfl ?_
      refine x_iconst dX11_mostOf_46 ?_
      refine x_istore [(5, iV 0), (4, iV r9), (3, iV ((15625 * p1) + p2)), (0, .ref (x.2.2.1 + 260)), (1, iV p1), (2, iV p2)] dX11_mostOf_47 (show 5 < 9 by decide) rfl ?_
      refine x_sub [3, 4, 5, 2, 1, 0] rfl ?_
      refine x_loop2 (fun l4_11 l5_12 => [(0, .ref (x.2.2.1 + 260)), (1, iV p1), (2, iV p2), (3, iV ((15625 * p1) + p2)), (4, iV l4_11), (5, iV l5_12)]) h (fun J49 l4_11 l5_12 μ13 hJ49 h n14 => ?_)
      refine x_iload 5 rfl dX11_mostOf_49 ?_
      refine x_aload_n 0 rfl dX11_mostOf_51 ?_
      refine x_getR (j := 15) (r := 263) ly260 (by decide) rfl rfl (by decide) inT11 fl_X11_20 dX11_mostOf_52 ?_
      refine x_iconst dX11_mostOf_55 ?_
      refine x_iald ly263 (by decide) (by decide) ⟨by decide, by decide⟩ (by decide) dX11_mostOf_56 (fun r15 => ?_)
      obtain ⟨c16, h⟩ := h
      refine x_icmpge (tgt := 144) c16 r15 dX11_mostOf_57 (by decide) (fun k17 => ?_) (fun k17 => ?_)
      · have h := h.1 k17
        refine x_aload_n 0 rfl dX11_mostOf_144 ?_
        refine x_getR (j := 34) (r := 276) ly260 (by decide) rfl rfl (by decide) inT11 fl_X11_60 dX11_mostOf_145 ?_
        refine x_iload_n 3 rfl dX11_mostOf_148 ?_
        refine x_iload 4 rfl dX11_mostOf_149 ?_
        obtain ⟨c18, h⟩ := h
        obtain ⟨c19, h⟩ := h
        refine x_iast ly276 c18.1 c18.2 (xIb (n := 140625) c18 (by decide)) c19 (by decide) dX11_mostOf_151 (fun μ20 e22 n21 => ?_)
        have h := h μ20 e22 n21
        refine x_iload 4 rfl dX11_mostOf_152 ?_
        exact x_iret h c19 rfl dX11_mostOf_154
      · have h := h.2 k17
        refine x_iconst dX11_mostOf_60 ?_
        refine x_istore [(6, iV 0), (0, .ref (x.2.2.1 + 260)), (1, iV p1), (2, iV p2), (3, iV ((15625 * p1) + p2)), (4, iV l4_11), (5, iV l5_12)] dX11_mostOf_61 (show 6 < 9 by decide) rfl ?_
        refine x_sub [1, 2, 3, 4, 5, 6, 0] rfl ?_
        refine x_loop2 (fun l4_23 l6_24 => [(0, .ref (x.2.2.1 + 260)), (1, iV p1), (2, iV p2), (3, iV ((15625 * p1) + p2)), (4, iV l4_23), (5, iV l5_12), (6, iV l6_24)]) h (fun J63 l4_23 l6_24 μ25 hJ63 h n26 => ?_)
        refine x_iload 6 rfl dX11_mostOf_63 ?_
        refine x_aload_n 0 rfl dX11_mostOf_65 ?_
        refine x_getR (j := 15) (r := 263) ly260 (by decide) rfl rfl (by decide) inT11 fl_X11_20 dX11_mostOf_66 ?_
        refine x_iconst dX11_mostOf_69 ?_
        refine x_iald ly263 (by decide) (by decide) ⟨by decide, by decide⟩ (by decide) dX11_mostOf_70 (fun r27 => ?_)
        obtain ⟨c28, h⟩ := h
        refine x_icmpge (tgt := 138) c28 r27 dX11_mostOf_71 (by decide) (fun k29 => ?_) (fun k29 => ?_)
        · have h := h.1 k29
          refine x_iinc 5 rfl [(5, iV (l5_12 + 1)), (0, .ref (x.2.2.1 + 260)), (1, iV p1), (2, iV p2), (3, iV ((15625 * p1) + p2)), (4, iV l4_23), (6, iV l6_24)] dX11_mostOf_138 (show 5 < 9 by decide) rfl ?_
          refine x_goto (tgt := 49) dX11_mostOf_141 (by decide) ?_
          exact x_sub [1, 2, 3, 4, 5, 0] rfl (hJ49 _ _ _ h)
        · have h := h.2 k29
          refine x_aload_n 0 rfl dX11_mostOf_74 ?_
          refine x_iload_n 2 rfl dX11_mostOf_75 ?_
          refine x_iload 5 rfl dX11_mostOf_76 ?_
          refine x_iload 6 rfl dX11_mostOf_78 ?_
          refine x_aload_n 0 rfl dX11_mostOf_80 ?_
          refine x_getR (j := 15) (r := 263) ly260 (by decide) rfl rfl (by decide) inT11 fl_X11_20 dX11_mostOf_81 ?_
          refine x_sipush dX11_mostOf_84 (by decide) ?_
          refine x_iload_n 1 rfl dX11_mostOf_87 ?_
          refine x_iadd dX11_mostOf_88 ?_
          obtain ⟨c30, h⟩ := h
          refine x_iald ly263 c30.1 c30.2 (xIb (n := 322) c30 (by decide)) (by decide) dX11_mostOf_89 (fun r31 => ?_)
          obtain ⟨c32, h⟩ := h
          refine x_callVi (As := [iV p2, iV l5_12, iV l6_24, iV (μ25 263 ((295 + p1).toNat))]) (rest := []) cal_X11_wordAfter ins_X11_wordAfter sel_X11_wordAfter ly260 (by decide) rfl (xX11_wordAfter x p2 l5_12 l6_24 (μ25 263 ((295 + p1).toNat)) _ _ hp2 c32 c28 r31 h) rfl ml_X11_325 (xRoom (show 3 + 1 ≤ dM by omega)) (Nat.le_of_ble_eq_true rfl) dX11_mostOf_90 (fun r35 μ33 i36 n34 h => ?_)
          have h := h i36 n34
          refine x_istore [(7, iV r35), (0, .ref (x.2.2.1 + 260)), (1, iV p1), (2, iV p2), (3, iV ((15625 * p1) + p2)), (4, iV l4_23), (5, iV l5_12), (6, iV l6_24)] dX11_mostOf_93 (show 7 < 9 by decide) rfl ?_
          refine x_iload 0 rfl dX11_mostOf_95 ?_
          refine x_ifge (tgt := 103) i36  dX11_mostOf_97 (by decide) (fun k37 => ?_) (fun k37 => ?_)
          · have h := h.1 k37
            refine x_iconst dX11_mostOf_103 ?_
            refine x_aload_n 1 rfl dX11_mostOf_104 ?_
            refine x_iload_n 2 rfl dX11_mostOf_105 ?_
            refine x_iconst dX11_mostOf_106 ?_
            refine x_iadd dX11_mostOf_107 ?_
            refine x_iload 0 rfl dX11_mostOf_108 ?_
            obtain ⟨c38, h⟩ := h
            refine x_callVi (As := [iV (p1 + 1), iV r35]) (rest := [iV 1]) cal_X11_mostOf ins_X11_mostOf sel_X11_mostOf ly260 (by decide) rfl (hF (p1 + 1) r35 _ _ c38 i36 h) rfl ml_X11_322 (xRoom (show dF + 1 ≤ dM by omega)) (Nat.le_of_ble_eq_true rfl) dX11_mostOf_110 (fun r41 μ39 i42 n40 h => ?_)
            have h := h i42 n40
            refine x_iadd dX11_mostOf_113 ?_
            refine x_istore [(8, iV (1 + r41)), (7, iV r35), (0, .ref (x.2.2.1 + 260)), (1, iV p1), (2, iV p2), (3, iV ((15625 * p1) + p2)), (4, iV l4_23), (5, iV l5_12), (6, iV l6_24)] dX11_mostOf_114 (show 8 < 9 by decide) rfl ?_
            refine x_iload 0 rfl dX11_mostOf_116 ?_
            refine x_iload 6 rfl dX11_mostOf_118 ?_
            obtain ⟨c43, h⟩ := h
            obtain ⟨c44, h⟩ := h
            refine x_icmple (tgt := 128) c43 c44 dX11_mostOf_120 (by decide) (fun k45 => ?_) (fun k45 => ?_)
            · have h := h.1 k45
              refine x_iload 6 rfl dX11_mostOf_128 ?_
              refine x_istore [(4, iV l4_23), (8, iV (1 + r41)), (7, iV r35), (0, .ref (x.2.2.1 + 260)), (1, iV p1), (2, iV p2), (3, iV ((15625 * p1) + p2)), (5, iV l5_12), (6, iV l6_24)] dX11_mostOf_130 (show 4 < 9 by decide) rfl ?_
              refine x_iinc 8 rfl [(6, iV (l6_24 + 1)), (4, iV l4_23), (8, iV (1 + r41)), (7, iV r35), (0, .ref (x.2.2.1 + 260)), (1, iV p1), (2, iV p2), (3, iV ((15625 * p1) + p2)), (5, iV l5_12)] dX11_mostOf_132 (show 6 < 9 by decide) rfl ?_
              refine x_goto (tgt := 63) dX11_mostOf_135 (by decide) ?_
              exact x_sub [4, 5, 6, 7, 1, 8, 0] rfl (hJ63 _ _ _ h)
            · have h := h.2 k45
              refine x_iload 0 rfl dX11_mostOf_123 ?_
              refine x_goto (tgt := 130) dX11_mostOf_125 (by decide) ?_
              refine x_istore [(4, iV (1 + r41)), (8, iV (1 + r41)), (7, iV r35), (0, .ref (x.2.2.1 + 260)), (1, iV p1), (2, iV p2), (3, iV ((15625 * p1) + p2)), (5, iV l5_12), (6, iV l6_24)] dX11_mostOf_130 (show 4 < 9 by decide) rfl ?_
              refine x_iinc 8 rfl [(6, iV (l6_24 + 1)), (4, iV (1 + r41)), (8, iV (1 + r41)), (7, iV r35), (0, .ref (x.2.2.1 + 260)), (1, iV p1), (2, iV p2), (3, iV ((15625 * p1) + p2)), (5, iV l5_12)] dX11_mostOf_132 (show 6 < 9 by decide) rfl ?_
              refine x_goto (tgt := 63) dX11_mostOf_135 (by decide) ?_
              exact x_sub [4, 5, 6, 7, 1, 8, 0] rfl (hJ63 _ _ _ h)
          · have h := h.2 k37
            refine x_goto (tgt := 132) dX11_mostOf_100 (by decide) ?_
            refine x_iinc 7 rfl [(6, iV (l6_24 + 1)), (7, iV r35), (0, .ref (x.2.2.1 + 260)), (1, iV p1), (2, iV p2), (3, iV ((15625 * p1) + p2)), (4, iV l4_23), (5, iV l5_12)] dX11_mostOf_132 (show 6 < 9 by decide) rfl ?_
            refine x_goto (tgt := 63) dX11_mostOf_135 (by decide) ?_
            exact x_sub [2, 3, 4, 5, 6, 7, 0] rfl (hJ63 _ _ _ h)
    · have h := h.2 k5
      refine x_aload_n 1 rfl dX11_mostOf_29 ?_
      refine x_getR (j := 34) (r := 276) ly260 (by decide) rfl rfl (by decide) inT11 fl_X11_60 dX11_mostOf_30 ?_
      refine x_iload_n 0 rfl dX11_mostOf_33 ?_
      refine x_iald ly276 c3.1 c3.2 (xIb (n := 140625) c3 (by decide)) (by decide) dX11_mostOf_34 (fun r46 => ?_)
      exact x_iret h r46 rfl dX11_mostOf_35
  · have h := h.2 k2
    refine x_iconst dX11_mostOf_10 ?_
    exact x_iret h ⟨by decide, by decide⟩ rfl dX11_mostOf_11
theorem xX11_mostOf (x : xX) : ∀ (n : Nat) (p1 : Int) (p2 : Int) (μ : xM) (Q : Int → xM → Prop) (hp1 : xIn p1) (hp2 : xIn p2) (h : tX11_mostOf n p1 p2 μ Q), xMet x (4 + 2 * n) yX11_mostOf cX11_mostOf 9 (some .int) [.ref (x.2.2.1 + 260), iV p1, iV p2] μ (xQi x Q)
  | 0, _, _, _, _, _, _, h => h.elim
  | n + 1, p1, p2, μ, Q, hp1, hp2, h => xX11_mostOf_body x (tX11_mostOf n) p1 p2 μ Q hp1 hp2 (4 + 2 * n) (fun p11 p21 μ Q hp11 hp21 h => xX11_mostOf x n p11 p21 μ Q hp11 hp21 h) (4 + 2 * (n + 1)) (by omega) (by omega) h
set_option maxRecDepth 100000 in
set_option maxHeartbeats 4000000 in
theorem xX11_seated_b132 (x : xX) (p1 : Int) (p2 : Int) (p3 : Int) (b4 : Int) (b5 : Int) (b6 : Int) (b7 : Int) (b8 : Int) (s0 : Int) (s1 : Int) (μ : xM) (Q : Int → xM → Prop) (J9 : Int → Int → Int → xM → Prop) (J23 : Int → Int → Int → xM → Prop) (hp1 : xIn p1) (hp2 : xIn p2) (hp3 : xIn p3)  (hJ9 : ∀ (c4 c5 c6 : Int) (ν : xM), J9 c4 c5 c6 ν → xW x (xRm 29, RX11, cX11_seated, 11, (some .int), fun _ _ => True) (xQi x Q) 9 [(0, .ref (x.2.2.1 + 260)), (1, iV p1), (2, iV p2), (3, iV p3), (4, iV c4), (5, iV c5), (6, iV c6)] [] ν) (hJ23 : ∀ (c4 c5 c7 : Int) (ν : xM), J23 c4 c5 c7 ν → xW x (xRm 29, RX11, cX11_seated, 11, (some .int), fun _ _ => True) (xQi x Q) 23 [(0, .ref (x.2.2.1 + 260)), (1, iV p1), (2, iV p2), (3, iV p3), (4, iV c4), (5, iV c5), (6, iV b6), (7, iV c7)] [] ν) (h : tX11_seated_b132 p1 p2 p3 b4 b5 b6 b7 b8 s0 s1 μ Q J9 J23) : xW x (xRm 29, RX11, cX11_seated, 11, (some .int), fun _ _ => True) (xQi x Q) 132 [(0, .ref (x.2.2.1 + 260)), (1, iV p1), (2, iV p2), (3, iV p3), (4, iV b4), (5, iV b5), (6, iV b6), (7, iV b7), (8, iV b8)] [iV s1, iV s0] μ := by
  refine x_ran (fun n0 => ?_)
  have h := h n0
  refine x_isub dX11_seated_132 ?_
  refine x_goto (tgt := 147) dX11_seated_133 (by decide) ?_
  refine x_istore [(10, iV (s0 - s1)), (0, .ref (x.2.2.1 + 260)), (1, iV p1), (2, iV p2), (3, iV p3), (4, iV b4), (5, iV b5), (6, iV b6), (7, iV b7), (8, iV b8)] dX11_seated_147 (show 10 < 11 by decide) rfl ?_
  refine x_iload 5 rfl dX11_seated_149 ?_
  obtain ⟨c58, h⟩ := h
  refine x_iflt (tgt := 164) c58  dX11_seated_151 (by decide) (fun k59 => ?_) (fun k59 => ?_)
  · have h := h.1 k59
    refine x_iload 9 rfl dX11_seated_164 ?_
    refine x_istore [(4, iV b8), (10, iV (s0 - s1)), (0, .ref (x.2.2.1 + 260)), (1, iV p1), (2, iV p2), (3, iV p3), (5, iV b5), (6, iV b6), (7, iV b7), (8, iV b8)] dX11_seated_166 (show 4 < 11 by decide) rfl ?_
    refine x_iload 1 rfl dX11_seated_168 ?_
    refine x_istore [(5, iV (s0 - s1)), (4, iV b8), (10, iV (s0 - s1)), (0, .ref (x.2.2.1 + 260)), (1, iV p1), (2, iV p2), (3, iV p3), (6, iV b6), (7, iV b7), (8, iV b8)] dX11_seated_170 (show 5 < 11 by decide) rfl ?_
    refine x_iinc 8 rfl [(7, iV (b7 + 1)), (5, iV (s0 - s1)), (4, iV b8), (10, iV (s0 - s1)), (0, .ref (x.2.2.1 + 260)), (1, iV p1), (2, iV p2), (3, iV p3), (6, iV b6), (8, iV b8)] dX11_seated_172 (show 7 < 11 by decide) rfl ?_
    refine x_goto (tgt := 23) dX11_seated_175 (by decide) ?_
    exact x_sub [4, 5, 6, 7, 2, 1, 8, 0] rfl (hJ23 _ _ _ _ h)
  · have h := h.2 k59
    refine x_iload 0 rfl dX11_seated_154 ?_
    refine x_iload 6 rfl dX11_seated_156 ?_
    obtain ⟨c60, h⟩ := h
    obtain ⟨c61, h⟩ := h
    refine x_icmpgt (tgt := 164) c60 c61 dX11_seated_158 (by decide) (fun k62 => ?_) (fun k62 => ?_)
    · have h := h.1 k62
      refine x_iload 9 rfl dX11_seated_164 ?_
      refine x_istore [(4, iV b8), (10, iV (s0 - s1)), (0, .ref (x.2.2.1 + 260)), (1, iV p1), (2, iV p2), (3, iV p3), (5, iV b5), (6, iV b6), (7, iV b7), (8, iV b8)] dX11_seated_166 (show 4 < 11 by decide) rfl ?_
      refine x_iload 1 rfl dX11_seated_168 ?_
      refine x_istore [(5, iV (s0 - s1)), (4, iV b8), (10, iV (s0 - s1)), (0, .ref (x.2.2.1 + 260)), (1, iV p1), (2, iV p2), (3, iV p3), (6, iV b6), (7, iV b7), (8, iV b8)] dX11_seated_170 (show 5 < 11 by decide) rfl ?_
      refine x_iinc 8 rfl [(7, iV (b7 + 1)), (5, iV (s0 - s1)), (4, iV b8), (10, iV (s0 - s1)), (0, .ref (x.2.2.1 + 260)), (1, iV p1), (2, iV p2), (3, iV p3), (6, iV b6), (8, iV b8)] dX11_seated_172 (show 7 < 11 by decide) rfl ?_
      refine x_goto (tgt := 23) dX11_seated_175 (by decide) ?_
      exact x_sub [4, 5, 6, 7, 2, 1, 8, 0] rfl (hJ23 _ _ _ _ h)
    · have h := h.2 k62
      refine x_goto (tgt := 172) dX11_seated_161 (by decide) ?_
      refine x_iinc 8 rfl [(7, iV (b7 + 1)), (10, iV (s0 - s1)), (0, .ref (x.2.2.1 + 260)), (1, iV p1), (2, iV p2), (3, iV p3), (4, iV b4), (5, iV b5), (6, iV b6), (8, iV b8)] dX11_seated_172 (show 7 < 11 by decide) rfl ?_
      refine x_goto (tgt := 23) dX11_seated_175 (by decide) ?_
      exact x_sub [2, 3, 4, 5, 6, 7, 8, 0] rfl (hJ23 _ _ _ _ h)
set_option maxRecDepth 100000 in
set_option maxHeartbeats 4000000 in
theorem xX11_seated (x : xX) (p1 : Int) (p2 : Int) (p3 : Int) (μ : xM) (Q : Int → xM → Prop) (hp1 : xIn p1) (hp2 : xIn p2) (hp3 : xIn p3) (h : tX11_seated p1 p2 p3 μ Q) : xMet x 29 yX11_seated cX11_seated 11 (some .int) [.ref (x.2.2.1 + 260), iV p1, iV p2, iV p3] μ (xQi x Q) := by
  refine xMet_of (by decide +kernel) (Nat.le_of_ble_eq_true rfl) ?_
  show xW x (xRm 29, RX11, cX11_seated, 11, (some .int), fun _ _ => True) (xQi x Q) 0 [(0, .ref (x.2.2.1 + 260)), (1, iV p1), (2, iV p2), (3, iV p3)] [] μ
  refine x_ran (fun n0 => ?_)
  have h := h n0 hp1 hp2 hp3
  refine x_iconst dX11_seated_0 ?_
  refine x_istore [(4, iV (-1)), (0, .ref (x.2.2.1 + 260)), (1, iV p1), (2, iV p2), (3, iV p3)] dX11_seated_1 (show 4 < 11 by decide) rfl ?_
  refine x_iconst dX11_seated_3 ?_
  refine x_istore [(5, iV 0), (4, iV (-1)), (0, .ref (x.2.2.1 + 260)), (1, iV p1), (2, iV p2), (3, iV p3)] dX11_seated_4 (show 5 < 11 by decide) rfl ?_
  refine x_iconst dX11_seated_6 ?_
  refine x_istore [(6, iV 0), (5, iV 0), (4, iV (-1)), (0, .ref (x.2.2.1 + 260)), (1, iV p1), (2, iV p2), (3, iV p3)] dX11_seated_7 (show 6 < 11 by decide) rfl ?_
  refine x_sub [3, 4, 5, 6, 2, 1, 0] rfl ?_
  refine x_loop3 (fun l4_1 l5_2 l6_3 => [(0, .ref (x.2.2.1 + 260)), (1, iV p1), (2, iV p2), (3, iV p3), (4, iV l4_1), (5, iV l5_2), (6, iV l6_3)]) h (fun J9 l4_1 l5_2 l6_3 μ4 hJ9 h n5 => ?_)
  refine x_iload 6 rfl dX11_seated_9 ?_
  refine x_aload_n 0 rfl dX11_seated_11 ?_
  refine x_getR (j := 15) (r := 263) ly260 (by decide) rfl rfl (by decide) inT11 fl_X11_20 dX11_seated_12 ?_
  refine x_iconst dX11_seated_15 ?_
  refine x_iald ly263 (by decide) (by decide) ⟨by decide, by decide⟩ (by decide) dX11_seated_16 (fun r6 => ?_)
  obtain ⟨c7, h⟩ := h
  refine x_icmpge (tgt := 184) c7 r6 dX11_seated_17 (by decide) (fun k8 => ?_) (fun k8 => ?_)
  · have h := h.1 k8
    refine x_iload_n 1 rfl dX11_seated_184 ?_
    refine x_iconst dX11_seated_185 ?_
    refine x_icmpne (tgt := 211) hp1 ⟨by decide, by decide⟩ dX11_seated_186 (by decide) (fun k9 => ?_) (fun k9 => ?_)
    · have h := h.1 k9
      refine x_iload 4 rfl dX11_seated_211 ?_
      obtain ⟨c10, h⟩ := h
      exact x_iret h c10 rfl dX11_seated_213
    · have h := h.2 k9
      refine x_iload 4 rfl dX11_seated_189 ?_
      obtain ⟨c11, h⟩ := h
      refine x_iflt (tgt := 211) c11  dX11_seated_191 (by decide) (fun k12 => ?_) (fun k12 => ?_)
      · have h := h.1 k12
        refine x_iload 4 rfl dX11_seated_211 ?_
        exact x_iret h c11 rfl dX11_seated_213
      · have h := h.2 k12
        refine x_aload_n 0 rfl dX11_seated_194 ?_
        refine x_iload_n 2 rfl dX11_seated_195 ?_
        refine x_iconst dX11_seated_196 ?_
        refine x_iadd dX11_seated_197 ?_
        refine x_iload_n 3 rfl dX11_seated_198 ?_
        obtain ⟨c13, h⟩ := h
        refine x_callVi (As := [iV (p2 + 1), iV p3]) (rest := []) cal_X11_mostOf ins_X11_mostOf sel_X11_mostOf ly260 (by decide) rfl (xX11_mostOf x 12 (p2 + 1) p3 _ _ c13 hp3 h) rfl ml_X11_322 (xRoom (Nat.le_of_ble_eq_true rfl)) (Nat.le_of_ble_eq_true rfl) dX11_seated_199 (fun r16 μ14 i17 n15 h => ?_)
        have h := h i17 n15
        refine x_iload 5 rfl dX11_seated_202 ?_
        obtain ⟨c18, h⟩ := h
        refine x_icmple (tgt := 211) i17 c18 dX11_seated_204 (by decide) (fun k19 => ?_) (fun k19 => ?_)
        · have h := h.1 k19
          refine x_iload 4 rfl dX11_seated_211 ?_
          exact x_iret h c11 rfl dX11_seated_213
        · have h := h.2 k19
          refine x_iconst dX11_seated_207 ?_
          refine x_goto (tgt := 213) dX11_seated_208 (by decide) ?_
          exact x_iret h ⟨by decide, by decide⟩ rfl dX11_seated_213
  · have h := h.2 k8
    refine x_iconst dX11_seated_20 ?_
    refine x_istore [(7, iV 0), (0, .ref (x.2.2.1 + 260)), (1, iV p1), (2, iV p2), (3, iV p3), (4, iV l4_1), (5, iV l5_2), (6, iV l6_3)] dX11_seated_21 (show 7 < 11 by decide) rfl ?_
    refine x_sub [1, 2, 3, 4, 5, 6, 7, 0] rfl ?_
    refine x_loop3 (fun l4_20 l5_21 l7_22 => [(0, .ref (x.2.2.1 + 260)), (1, iV p1), (2, iV p2), (3, iV p3), (4, iV l4_20), (5, iV l5_21), (6, iV l6_3), (7, iV l7_22)]) h (fun J23 l4_20 l5_21 l7_22 μ23 hJ23 h n24 => ?_)
    refine x_iload 7 rfl dX11_seated_23 ?_
    refine x_aload_n 0 rfl dX11_seated_25 ?_
    refine x_getR (j := 15) (r := 263) ly260 (by decide) rfl rfl (by decide) inT11 fl_X11_20 dX11_seated_26 ?_
    refine x_iconst dX11_seated_29 ?_
    refine x_iald ly263 (by decide) (by decide) ⟨by decide, by decide⟩ (by decide) dX11_seated_30 (fun r25 => ?_)
    obtain ⟨c26, h⟩ := h
    refine x_icmpge (tgt := 178) c26 r25 dX11_seated_31 (by decide) (fun k27 => ?_) (fun k27 => ?_)
    · have h := h.1 k27
      refine x_iinc 6 rfl [(6, iV (l6_3 + 1)), (0, .ref (x.2.2.1 + 260)), (1, iV p1), (2, iV p2), (3, iV p3), (4, iV l4_20), (5, iV l5_21), (7, iV l7_22)] dX11_seated_178 (show 6 < 11 by decide) rfl ?_
      refine x_goto (tgt := 9) dX11_seated_181 (by decide) ?_
      exact x_sub [1, 2, 3, 4, 5, 6, 0] rfl (hJ9 _ _ _ _ h)
    · have h := h.2 k27
      refine x_aload_n 0 rfl dX11_seated_34 ?_
      refine x_iload_n 3 rfl dX11_seated_35 ?_
      refine x_iload 6 rfl dX11_seated_36 ?_
      refine x_iload 7 rfl dX11_seated_38 ?_
      refine x_aload_n 0 rfl dX11_seated_40 ?_
      refine x_getR (j := 15) (r := 263) ly260 (by decide) rfl rfl (by decide) inT11 fl_X11_20 dX11_seated_41 ?_
      refine x_sipush dX11_seated_44 (by decide) ?_
      refine x_iload_n 2 rfl dX11_seated_47 ?_
      refine x_iadd dX11_seated_48 ?_
      obtain ⟨c28, h⟩ := h
      refine x_iald ly263 c28.1 c28.2 (xIb (n := 322) c28 (by decide)) (by decide) dX11_seated_49 (fun r29 => ?_)
      obtain ⟨c30, h⟩ := h
      refine x_callVi (As := [iV p3, iV l6_3, iV l7_22, iV (μ23 263 ((295 + p2).toNat))]) (rest := []) cal_X11_wordAfter ins_X11_wordAfter sel_X11_wordAfter ly260 (by decide) rfl (xX11_wordAfter x p3 l6_3 l7_22 (μ23 263 ((295 + p2).toNat)) _ _ hp3 c30 c26 r29 h) rfl ml_X11_325 (xRoom (Nat.le_of_ble_eq_true rfl)) (Nat.le_of_ble_eq_true rfl) dX11_seated_50 (fun r33 μ31 i34 n32 h => ?_)
      have h := h i34 n32
      refine x_istore [(8, iV r33), (0, .ref (x.2.2.1 + 260)), (1, iV p1), (2, iV p2), (3, iV p3), (4, iV l4_20), (5, iV l5_21), (6, iV l6_3), (7, iV l7_22)] dX11_seated_53 (show 8 < 11 by decide) rfl ?_
      refine x_iload 0 rfl dX11_seated_55 ?_
      refine x_ifge (tgt := 63) i34  dX11_seated_57 (by decide) (fun k35 => ?_) (fun k35 => ?_)
      · have h := h.1 k35
        refine x_iload_n 4 rfl dX11_seated_63 ?_
        refine x_iload 7 rfl dX11_seated_64 ?_
        refine x_callSi (As := [iV p3, iV l6_3]) (rest := []) cal_X11_wordOf sta_X11_wordOf (xX11_wordOf x p3 l6_3 _ _ hp3 c30 h) rfl ml_X11_315 (xRoom (Nat.le_of_ble_eq_true rfl)) (Nat.le_of_ble_eq_true rfl) dX11_seated_66 (fun r38 μ36 i39 n37 h => ?_)
        have h := h i39 n37
        refine x_istore [(9, iV r38), (8, iV r33), (0, .ref (x.2.2.1 + 260)), (1, iV p1), (2, iV p2), (3, iV p3), (4, iV l4_20), (5, iV l5_21), (6, iV l6_3), (7, iV l7_22)] dX11_seated_69 (show 9 < 11 by decide) rfl ?_
        refine x_iload_n 3 rfl dX11_seated_71 ?_
        refine x_ifne (tgt := 79) hp1  dX11_seated_72 (by decide) (fun k40 => ?_) (fun k40 => ?_)
        · have h := h.1 k40
          refine x_iload_n 3 rfl dX11_seated_79 ?_
          refine x_iconst dX11_seated_80 ?_
          refine x_icmpne (tgt := 94) hp1 ⟨by decide, by decide⟩ dX11_seated_81 (by decide) (fun k41 => ?_) (fun k41 => ?_)
          · have h := h.1 k41
            refine x_iload_n 3 rfl dX11_seated_94 ?_
            refine x_iconst dX11_seated_95 ?_
            refine x_icmpne (tgt := 136) hp1 ⟨by decide, by decide⟩ dX11_seated_96 (by decide) (fun k42 => ?_) (fun k42 => ?_)
            · have h := h.1 k42
              refine x_iconst dX11_seated_136 ?_
              refine x_aload_n 2 rfl dX11_seated_137 ?_
              refine x_iload_n 4 rfl dX11_seated_138 ?_
              refine x_iconst dX11_seated_139 ?_
              refine x_iadd dX11_seated_140 ?_
              refine x_iload 1 rfl dX11_seated_141 ?_
              obtain ⟨c43, h⟩ := h
              refine x_callVi (As := [iV (p2 + 1), iV r33]) (rest := [iV 1]) cal_X11_mostOf ins_X11_mostOf sel_X11_mostOf ly260 (by decide) rfl (xX11_mostOf x 12 (p2 + 1) r33 _ _ c43 i34 h) rfl ml_X11_322 (xRoom (Nat.le_of_ble_eq_true rfl)) (Nat.le_of_ble_eq_true rfl) dX11_seated_143 (fun r46 μ44 i47 n45 h => ?_)
              have h := h i47 n45
              refine x_iadd dX11_seated_146 ?_
              refine x_istore [(10, iV (1 + r46)), (9, iV r38), (8, iV r33), (0, .ref (x.2.2.1 + 260)), (1, iV p1), (2, iV p2), (3, iV p3), (4, iV l4_20), (5, iV l5_21), (6, iV l6_3), (7, iV l7_22)] dX11_seated_147 (show 10 < 11 by decide) rfl ?_
              refine x_iload 7 rfl dX11_seated_149 ?_
              obtain ⟨c48, h⟩ := h
              refine x_iflt (tgt := 164) c48  dX11_seated_151 (by decide) (fun k49 => ?_) (fun k49 => ?_)
              · have h := h.1 k49
                refine x_iload 2 rfl dX11_seated_164 ?_
                refine x_istore [(4, iV r33), (10, iV (1 + r46)), (9, iV r38), (8, iV r33), (0, .ref (x.2.2.1 + 260)), (1, iV p1), (2, iV p2), (3, iV p3), (5, iV l5_21), (6, iV l6_3), (7, iV l7_22)] dX11_seated_166 (show 4 < 11 by decide) rfl ?_
                refine x_iload 1 rfl dX11_seated_168 ?_
                refine x_istore [(5, iV (1 + r46)), (4, iV r33), (10, iV (1 + r46)), (9, iV r38), (8, iV r33), (0, .ref (x.2.2.1 + 260)), (1, iV p1), (2, iV p2), (3, iV p3), (6, iV l6_3), (7, iV l7_22)] dX11_seated_170 (show 5 < 11 by decide) rfl ?_
                refine x_iinc 10 rfl [(7, iV (l7_22 + 1)), (5, iV (1 + r46)), (4, iV r33), (10, iV (1 + r46)), (9, iV r38), (8, iV r33), (0, .ref (x.2.2.1 + 260)), (1, iV p1), (2, iV p2), (3, iV p3), (6, iV l6_3)] dX11_seated_172 (show 7 < 11 by decide) rfl ?_
                refine x_goto (tgt := 23) dX11_seated_175 (by decide) ?_
                exact x_sub [6, 7, 8, 9, 2, 1, 10, 0] rfl (hJ23 _ _ _ _ h)
              · have h := h.2 k49
                refine x_iload 0 rfl dX11_seated_154 ?_
                refine x_iload 8 rfl dX11_seated_156 ?_
                obtain ⟨c50, h⟩ := h
                obtain ⟨c51, h⟩ := h
                refine x_icmpgt (tgt := 164) c50 c51 dX11_seated_158 (by decide) (fun k52 => ?_) (fun k52 => ?_)
                · have h := h.1 k52
                  refine x_iload 2 rfl dX11_seated_164 ?_
                  refine x_istore [(4, iV r33), (10, iV (1 + r46)), (9, iV r38), (8, iV r33), (0, .ref (x.2.2.1 + 260)), (1, iV p1), (2, iV p2), (3, iV p3), (5, iV l5_21), (6, iV l6_3), (7, iV l7_22)] dX11_seated_166 (show 4 < 11 by decide) rfl ?_
                  refine x_iload 1 rfl dX11_seated_168 ?_
                  refine x_istore [(5, iV (1 + r46)), (4, iV r33), (10, iV (1 + r46)), (9, iV r38), (8, iV r33), (0, .ref (x.2.2.1 + 260)), (1, iV p1), (2, iV p2), (3, iV p3), (6, iV l6_3), (7, iV l7_22)] dX11_seated_170 (show 5 < 11 by decide) rfl ?_
                  refine x_iinc 10 rfl [(7, iV (l7_22 + 1)), (5, iV (1 + r46)), (4, iV r33), (10, iV (1 + r46)), (9, iV r38), (8, iV r33), (0, .ref (x.2.2.1 + 260)), (1, iV p1), (2, iV p2), (3, iV p3), (6, iV l6_3)] dX11_seated_172 (show 7 < 11 by decide) rfl ?_
                  refine x_goto (tgt := 23) dX11_seated_175 (by decide) ?_
                  exact x_sub [6, 7, 8, 9, 2, 1, 10, 0] rfl (hJ23 _ _ _ _ h)
                · have h := h.2 k52
                  refine x_goto (tgt := 172) dX11_seated_161 (by decide) ?_
                  refine x_iinc 10 rfl [(7, iV (l7_22 + 1)), (10, iV (1 + r46)), (9, iV r38), (8, iV r33), (0, .ref (x.2.2.1 + 260)), (1, iV p1), (2, iV p2), (3, iV p3), (4, iV l4_20), (5, iV l5_21), (6, iV l6_3)] dX11_seated_172 (show 7 < 11 by decide) rfl ?_
                  refine x_goto (tgt := 23) dX11_seated_175 (by decide) ?_
                  exact x_sub [4, 5, 6, 7, 8, 9, 10, 0] rfl (hJ23 _ _ _ _ h)
            · have h := h.2 k42
              refine x_aload_n 2 rfl dX11_seated_99 ?_
              refine x_getR (j := 15) (r := 263) ly260 (by decide) rfl rfl (by decide) inT11 fl_X11_20 dX11_seated_100 ?_
              refine x_sipush dX11_seated_103 (by decide) ?_
              refine x_iload 9 rfl dX11_seated_106 ?_
              refine x_iadd dX11_seated_108 ?_
              obtain ⟨c53, h⟩ := h
              refine x_iald ly263 c53.1 c53.2 (xIb (n := 322) c53 (by decide)) (by decide) dX11_seated_109 (fun r54 => ?_)
              refine x_iload 0 rfl dX11_seated_110 ?_
              refine x_bipush dX11_seated_112 (by decide) ?_
              refine x_icmpne (tgt := 121) i39 ⟨by decide, by decide⟩ dX11_seated_114 (by decide) (fun k55 => ?_) (fun k55 => ?_)
              · have h := h.1 k55
                refine x_aload_n 2 rfl dX11_seated_121 ?_
                refine x_getR (j := 15) (r := 263) ly260 (by decide) rfl rfl (by decide) inT11 fl_X11_20 dX11_seated_122 ?_
                refine x_sipush dX11_seated_125 (by decide) ?_
                refine x_iload 0 rfl dX11_seated_128 ?_
                refine x_iadd dX11_seated_130 ?_
                obtain ⟨c56, h⟩ := h
                refine x_iald ly263 c56.1 c56.2 (xIb (n := 322) c56 (by decide)) (by decide) dX11_seated_131 (fun r57 => ?_)
                exact x_sub [2, 3, 4, 5, 6, 7, 8, 9, 1] rfl (xX11_seated_b132 x p1 p2 p3 l4_20 l5_21 l6_3 l7_22 r33 (μ36 263 ((175 + l7_22).toNat)) (μ36 263 ((175 + r38).toNat)) μ36 Q J9 J23 hp1 hp2 hp3 hJ9 hJ23 h)
              · have h := h.2 k55
                refine x_iconst dX11_seated_117 ?_
                refine x_goto (tgt := 132) dX11_seated_118 (by decide) ?_
                exact x_sub [2, 3, 4, 5, 6, 7, 8, 9, 1] rfl (xX11_seated_b132 x p1 p2 p3 l4_20 l5_21 l6_3 l7_22 r33 (μ36 263 ((175 + l7_22).toNat)) 0 μ36 Q J9 J23 hp1 hp2 hp3 hJ9 hJ23 h)
          · have h := h.2 k41
            refine x_aload_n 2 rfl dX11_seated_84 ?_
            refine x_getR (j := 21) (r := 268) ly260 (by decide) rfl rfl (by decide) inT11 fl_X11_35 dX11_seated_85 ?_
            refine x_iload 9 rfl dX11_seated_88 ?_
            obtain ⟨c63, h⟩ := h
            refine x_iald ly268 c63.1 c63.2 (xIb (n := 24) c63 (by decide)) (by decide) dX11_seated_90 (fun r64 => ?_)
            refine x_goto (tgt := 147) dX11_seated_91 (by decide) ?_
            refine x_istore [(10, iV (μ36 268 l7_22.toNat)), (9, iV r38), (8, iV r33), (0, .ref (x.2.2.1 + 260)), (1, iV p1), (2, iV p2), (3, iV p3), (4, iV l4_20), (5, iV l5_21), (6, iV l6_3), (7, iV l7_22)] dX11_seated_147 (show 10 < 11 by decide) rfl ?_
            refine x_iload 7 rfl dX11_seated_149 ?_
            obtain ⟨c65, h⟩ := h
            refine x_iflt (tgt := 164) c65  dX11_seated_151 (by decide) (fun k66 => ?_) (fun k66 => ?_)
            · have h := h.1 k66
              refine x_iload 2 rfl dX11_seated_164 ?_
              refine x_istore [(4, iV r33), (10, iV (μ36 268 l7_22.toNat)), (9, iV r38), (8, iV r33), (0, .ref (x.2.2.1 + 260)), (1, iV p1), (2, iV p2), (3, iV p3), (5, iV l5_21), (6, iV l6_3), (7, iV l7_22)] dX11_seated_166 (show 4 < 11 by decide) rfl ?_
              refine x_iload 1 rfl dX11_seated_168 ?_
              refine x_istore [(5, iV (μ36 268 l7_22.toNat)), (4, iV r33), (10, iV (μ36 268 l7_22.toNat)), (9, iV r38), (8, iV r33), (0, .ref (x.2.2.1 + 260)), (1, iV p1), (2, iV p2), (3, iV p3), (6, iV l6_3), (7, iV l7_22)] dX11_seated_170 (show 5 < 11 by decide) rfl ?_
              refine x_iinc 10 rfl [(7, iV (l7_22 + 1)), (5, iV (μ36 268 l7_22.toNat)), (4, iV r33), (10, iV (μ36 268 l7_22.toNat)), (9, iV r38), (8, iV r33), (0, .ref (x.2.2.1 + 260)), (1, iV p1), (2, iV p2), (3, iV p3), (6, iV l6_3)] dX11_seated_172 (show 7 < 11 by decide) rfl ?_
              refine x_goto (tgt := 23) dX11_seated_175 (by decide) ?_
              exact x_sub [6, 7, 8, 9, 2, 1, 10, 0] rfl (hJ23 _ _ _ _ h)
            · have h := h.2 k66
              refine x_iload 0 rfl dX11_seated_154 ?_
              refine x_iload 8 rfl dX11_seated_156 ?_
              obtain ⟨c67, h⟩ := h
              refine x_icmpgt (tgt := 164) r64 c67 dX11_seated_158 (by decide) (fun k68 => ?_) (fun k68 => ?_)
              · have h := h.1 k68
                refine x_iload 2 rfl dX11_seated_164 ?_
                refine x_istore [(4, iV r33), (10, iV (μ36 268 l7_22.toNat)), (9, iV r38), (8, iV r33), (0, .ref (x.2.2.1 + 260)), (1, iV p1), (2, iV p2), (3, iV p3), (5, iV l5_21), (6, iV l6_3), (7, iV l7_22)] dX11_seated_166 (show 4 < 11 by decide) rfl ?_
                refine x_iload 1 rfl dX11_seated_168 ?_
                refine x_istore [(5, iV (μ36 268 l7_22.toNat)), (4, iV r33), (10, iV (μ36 268 l7_22.toNat)), (9, iV r38), (8, iV r33), (0, .ref (x.2.2.1 + 260)), (1, iV p1), (2, iV p2), (3, iV p3), (6, iV l6_3), (7, iV l7_22)] dX11_seated_170 (show 5 < 11 by decide) rfl ?_
                refine x_iinc 10 rfl [(7, iV (l7_22 + 1)), (5, iV (μ36 268 l7_22.toNat)), (4, iV r33), (10, iV (μ36 268 l7_22.toNat)), (9, iV r38), (8, iV r33), (0, .ref (x.2.2.1 + 260)), (1, iV p1), (2, iV p2), (3, iV p3), (6, iV l6_3)] dX11_seated_172 (show 7 < 11 by decide) rfl ?_
                refine x_goto (tgt := 23) dX11_seated_175 (by decide) ?_
                exact x_sub [6, 7, 8, 9, 2, 1, 10, 0] rfl (hJ23 _ _ _ _ h)
              · have h := h.2 k68
                refine x_goto (tgt := 172) dX11_seated_161 (by decide) ?_
                refine x_iinc 10 rfl [(7, iV (l7_22 + 1)), (10, iV (μ36 268 l7_22.toNat)), (9, iV r38), (8, iV r33), (0, .ref (x.2.2.1 + 260)), (1, iV p1), (2, iV p2), (3, iV p3), (4, iV l4_20), (5, iV l5_21), (6, iV l6_3)] dX11_seated_172 (show 7 < 11 by decide) rfl ?_
                refine x_goto (tgt := 23) dX11_seated_175 (by decide) ?_
                exact x_sub [4, 5, 6, 7, 8, 9, 10, 0] rfl (hJ23 _ _ _ _ h)
        · have h := h.2 k40
          refine x_iconst dX11_seated_75 ?_
          refine x_goto (tgt := 147) dX11_seated_76 (by decide) ?_
          refine x_istore [(10, iV 0), (9, iV r38), (8, iV r33), (0, .ref (x.2.2.1 + 260)), (1, iV p1), (2, iV p2), (3, iV p3), (4, iV l4_20), (5, iV l5_21), (6, iV l6_3), (7, iV l7_22)] dX11_seated_147 (show 10 < 11 by decide) rfl ?_
          refine x_iload 7 rfl dX11_seated_149 ?_
          obtain ⟨c69, h⟩ := h
          refine x_iflt (tgt := 164) c69  dX11_seated_151 (by decide) (fun k70 => ?_) (fun k70 => ?_)
          · have h := h.1 k70
            refine x_iload 2 rfl dX11_seated_164 ?_
            refine x_istore [(4, iV r33), (10, iV 0), (9, iV r38), (8, iV r33), (0, .ref (x.2.2.1 + 260)), (1, iV p1), (2, iV p2), (3, iV p3), (5, iV l5_21), (6, iV l6_3), (7, iV l7_22)] dX11_seated_166 (show 4 < 11 by decide) rfl ?_
            refine x_iload 1 rfl dX11_seated_168 ?_
            refine x_istore [(5, iV 0), (4, iV r33), (10, iV 0), (9, iV r38), (8, iV r33), (0, .ref (x.2.2.1 + 260)), (1, iV p1), (2, iV p2), (3, iV p3), (6, iV l6_3), (7, iV l7_22)] dX11_seated_170 (show 5 < 11 by decide) rfl ?_
            refine x_iinc 10 rfl [(7, iV (l7_22 + 1)), (5, iV 0), (4, iV r33), (10, iV 0), (9, iV r38), (8, iV r33), (0, .ref (x.2.2.1 + 260)), (1, iV p1), (2, iV p2), (3, iV p3), (6, iV l6_3)] dX11_seated_172 (show 7 < 11 by decide) rfl ?_
            refine x_goto (tgt := 23) dX11_seated_175 (by decide) ?_
            exact x_sub [6, 7, 8, 9, 2, 1, 10, 0] rfl (hJ23 _ _ _ _ h)
          · have h := h.2 k70
            refine x_iload 0 rfl dX11_seated_154 ?_
            refine x_iload 8 rfl dX11_seated_156 ?_
            obtain ⟨c71, h⟩ := h
            refine x_icmpgt (tgt := 164) ⟨by decide, by decide⟩ c71 dX11_seated_158 (by decide) (fun k72 => ?_) (fun k72 => ?_)
            · have h := h.1 k72
              refine x_iload 2 rfl dX11_seated_164 ?_
              refine x_istore [(4, iV r33), (10, iV 0), (9, iV r38), (8, iV r33), (0, .ref (x.2.2.1 + 260)), (1, iV p1), (2, iV p2), (3, iV p3), (5, iV l5_21), (6, iV l6_3), (7, iV l7_22)] dX11_seated_166 (show 4 < 11 by decide) rfl ?_
              refine x_iload 1 rfl dX11_seated_168 ?_
              refine x_istore [(5, iV 0), (4, iV r33), (10, iV 0), (9, iV r38), (8, iV r33), (0, .ref (x.2.2.1 + 260)), (1, iV p1), (2, iV p2), (3, iV p3), (6, iV l6_3), (7, iV l7_22)] dX11_seated_170 (show 5 < 11 by decide) rfl ?_
              refine x_iinc 10 rfl [(7, iV (l7_22 + 1)), (5, iV 0), (4, iV r33), (10, iV 0), (9, iV r38), (8, iV r33), (0, .ref (x.2.2.1 + 260)), (1, iV p1), (2, iV p2), (3, iV p3), (6, iV l6_3)] dX11_seated_172 (show 7 < 11 by decide) rfl ?_
              refine x_goto (tgt := 23) dX11_seated_175 (by decide) ?_
              exact x_sub [6, 7, 8, 9, 2, 1, 10, 0] rfl (hJ23 _ _ _ _ h)
            · have h := h.2 k72
              refine x_goto (tgt := 172) dX11_seated_161 (by decide) ?_
              refine x_iinc 10 rfl [(7, iV (l7_22 + 1)), (10, iV 0), (9, iV r38), (8, iV r33), (0, .ref (x.2.2.1 + 260)), (1, iV p1), (2, iV p2), (3, iV p3), (4, iV l4_20), (5, iV l5_21), (6, iV l6_3)] dX11_seated_172 (show 7 < 11 by decide) rfl ?_
              refine x_goto (tgt := 23) dX11_seated_175 (by decide) ?_
              exact x_sub [4, 5, 6, 7, 8, 9, 10, 0] rfl (hJ23 _ _ _ _ h)
      · have h := h.2 k35
        refine x_goto (tgt := 172) dX11_seated_60 (by decide) ?_
        refine x_iinc 8 rfl [(7, iV (l7_22 + 1)), (8, iV r33), (0, .ref (x.2.2.1 + 260)), (1, iV p1), (2, iV p2), (3, iV p3), (4, iV l4_20), (5, iV l5_21), (6, iV l6_3)] dX11_seated_172 (show 7 < 11 by decide) rfl ?_
        refine x_goto (tgt := 23) dX11_seated_175 (by decide) ?_
        exact x_sub [2, 3, 4, 5, 6, 7, 8, 0] rfl (hJ23 _ _ _ _ h)
