set_option maxRecDepth 100000 in
set_option maxHeartbeats 4000000 in
theorem xX1_riseOf (x : xX) (p1 : Int) (μ : xM) (Q : Int → xM → Prop) (hp1 : xIn p1) (h : tX1_riseOf p1 μ Q) : xMet x 2 yX1_riseOf cX1_riseOf 2 (some .int) [.ref (x.2.2.1 + 73), iV p1] μ (xQi x Q) := by
  refine xMet_of (by decide +kernel) (Nat.le_of_ble_eq_true rfl) ?_
  show xW x (xRm 2, RX1, cX1_riseOf, 2, (some .int), fun _ _ => True) (xQi x Q) 0 [(0, .ref (x.2.2.1 + 73)), (1, iV p1)] [] μ
  refine x_ran (fun n0 => ?_)
  have h := h n0 hp1
  refine x_aload_n 0 rfl dX1_riseOf_0 ?_
  refine x_iload_n 1 rfl dX1_riseOf_1 ?_
  refine x_callVz (As := [iV p1]) (rest := []) cal_X1_isKind ins_X1_isKind sel_X1_isKind ly73 (by decide) rfl (xX1_isKind x p1 _ _ hp1 h) rfl ml_X1_113 (xRoom (Nat.le_of_ble_eq_true rfl)) (Nat.le_of_ble_eq_true rfl) dX1_riseOf_2 (fun r3 μ1 i4 n2 h => ?_)
  have h := h i4 n2
  refine x_ifeq (tgt := 17) (xIz i4)  dX1_riseOf_5 (by decide) (fun k5 => ?_) (fun k5 => ?_)
  · have h := h.1 k5
    refine x_iconst dX1_riseOf_17 ?_
    exact x_iret h ⟨by decide, by decide⟩ rfl dX1_riseOf_18
  · have h := h.2 (xz1 i4 k5)
    refine x_aload_n 0 rfl dX1_riseOf_8 ?_
    refine x_getR (j := 10) (r := 207) ly73 (by decide) rfl rfl (by decide) inT1 fl_X1_41 dX1_riseOf_9 ?_
    refine x_iload_n 1 rfl dX1_riseOf_12 ?_
    obtain ⟨c6, h⟩ := h
    refine x_iald ly207 c6.1 c6.2 hp1 (by decide) dX1_riseOf_13 (fun r7 => ?_)
    refine x_goto (tgt := 18) dX1_riseOf_14 (by decide) ?_
    exact x_iret h r7 rfl dX1_riseOf_18
set_option maxRecDepth 100000 in
set_option maxHeartbeats 4000000 in
theorem xX1_lookDown (x : xX) (p1 : Int) (μ : xM) (Q : xM → Prop) (hp1 : xIn p1) (h : tX1_lookDown p1 μ Q) : xMet x 5 yX1_lookDown cX1_lookDown 5 none [.ref (x.2.2.1 + 73), iV p1] μ (xQv x Q) := by
  refine xMet_of (by decide +kernel) (Nat.le_of_ble_eq_true rfl) ?_
  show xW x (xRm 5, RX1, cX1_lookDown, 5, none, fun _ _ => True) (xQv x Q) 0 [(0, .ref (x.2.2.1 + 73)), (1, iV p1)] [] μ
  refine x_ran (fun n0 => ?_)
  have h := h n0 hp1
  refine x_iconst dX1_lookDown_0 ?_
  refine x_istore_n [(2, iV 0), (0, .ref (x.2.2.1 + 73)), (1, iV p1)] dX1_lookDown_1 (show 2 < 5 by decide) rfl ?_
  refine x_sub [1, 2, 0] rfl ?_
  refine x_loop1 (fun l2_1 => [(0, .ref (x.2.2.1 + 73)), (1, iV p1), (2, iV l2_1)]) h (fun J2 l2_1 μ2 hJ2 h n3 => ?_)
  refine x_iload_n 2 rfl dX1_lookDown_2 ?_
  refine x_bipush dX1_lookDown_3 (by decide) ?_
  obtain ⟨c4, h⟩ := h
  refine x_icmpge (tgt := 90) c4 ⟨by decide, by decide⟩ dX1_lookDown_5 (by decide) (fun k5 => ?_) (fun k5 => ?_)
  · have h := h.1 k5
    exact x_vret h rfl dX1_lookDown_90
  · have h := h.2 k5
    refine x_aload_n 0 rfl dX1_lookDown_8 ?_
    refine x_getR (j := 0) (r := 39) ly73 (by decide) rfl rfl (by decide) inT1 fl_X1_44 dX1_lookDown_9 ?_
    refine x_iload_n 2 rfl dX1_lookDown_12 ?_
    refine x_callVi (As := [iV l2_1]) (rest := []) cal_X2_lengthOf ins_X2_lengthOf sel_X2_lengthOf ly39 (by decide) rfl (xX2_lengthOf x 39 l2_1 _ _ isHouse_39 c4 h) rfl ml_X1_52 (xRoom (Nat.le_of_ble_eq_true rfl)) (Nat.le_of_ble_eq_true rfl) dX1_lookDown_13 (fun r8 μ6 i9 n7 h => ?_)
    have h := h i9 n7
    refine x_iload_n 1 rfl dX1_lookDown_16 ?_
    refine x_icmpeq (tgt := 23) i9 hp1 dX1_lookDown_17 (by decide) (fun k10 => ?_) (fun k10 => ?_)
    · have h := h.1 k10
      refine x_iload_n 1 rfl dX1_lookDown_23 ?_
      refine x_istore_n [(3, iV p1), (0, .ref (x.2.2.1 + 73)), (1, iV p1), (2, iV l2_1)] dX1_lookDown_24 (show 3 < 5 by decide) rfl ?_
      refine x_iconst dX1_lookDown_25 ?_
      refine x_istore [(4, iV 0), (3, iV p1), (0, .ref (x.2.2.1 + 73)), (1, iV p1), (2, iV l2_1)] dX1_lookDown_26 (show 4 < 5 by decide) rfl ?_
      refine x_sub [2, 3, 4, 1, 0] rfl ?_
      refine x_loop2 (fun l3_11 l4_12 => [(0, .ref (x.2.2.1 + 73)), (1, iV p1), (2, iV l2_1), (3, iV l3_11), (4, iV l4_12)]) h (fun J28 l3_11 l4_12 μ13 hJ28 h n14 => ?_)
      refine x_iload 4 rfl dX1_lookDown_28 ?_
      refine x_aload_n 0 rfl dX1_lookDown_30 ?_
      refine x_getR (j := 7) (r := 204) ly73 (by decide) rfl rfl (by decide) inT1 fl_X1_32 dX1_lookDown_31 ?_
      refine x_iload_n 2 rfl dX1_lookDown_34 ?_
      obtain ⟨c15, h⟩ := h
      refine x_iald ly204 c15.1 c15.2 (xIb (n := 24) c15 (by decide)) (by decide) dX1_lookDown_35 (fun r16 => ?_)
      obtain ⟨c17, h⟩ := h
      refine x_icmpge (tgt := 77) c17 r16 dX1_lookDown_36 (by decide) (fun k18 => ?_) (fun k18 => ?_)
      · have h := h.1 k18
        refine x_aload_n 0 rfl dX1_lookDown_77 ?_
        refine x_getR (j := 10) (r := 207) ly73 (by decide) rfl rfl (by decide) inT1 fl_X1_41 dX1_lookDown_78 ?_
        refine x_iload_n 2 rfl dX1_lookDown_81 ?_
        refine x_iload_n 3 rfl dX1_lookDown_82 ?_
        obtain ⟨c19, h⟩ := h
        obtain ⟨c20, h⟩ := h
        refine x_iast ly207 c19.1 c19.2 (xIb (n := 25) c19 (by decide)) c20 (by decide) dX1_lookDown_83 (fun μ21 e23 n22 => ?_)
        have h := h μ21 e23 n22
        refine x_iinc 2 rfl [(2, iV (l2_1 + 1)), (0, .ref (x.2.2.1 + 73)), (1, iV p1), (3, iV l3_11), (4, iV l4_12)] dX1_lookDown_84 (show 2 < 5 by decide) rfl ?_
        refine x_goto (tgt := 2) dX1_lookDown_87 (by decide) ?_
        exact x_sub [1, 2, 0] rfl (hJ2 _ _ h)
      · have h := h.2 k18
        refine x_aload_n 0 rfl dX1_lookDown_39 ?_
        refine x_getR (j := 6) (r := 179) ly73 (by decide) rfl rfl (by decide) inT1 fl_X1_29 dX1_lookDown_40 ?_
        refine x_iload_n 2 rfl dX1_lookDown_43 ?_
        refine x_aaldI ly179 c15.1 c15.2 (xIb (n := 24) c15 (by decide)) (by decide) dX1_lookDown_44 ?_
        refine x_iload 4 rfl dX1_lookDown_45 ?_
        obtain ⟨c24, h⟩ := h
        refine x_iald (lr179 l2_1.toNat (by omega)) c24.1 c24.2 (xIb (n := 25) c24 (by decide)) (by omega) dX1_lookDown_47 (fun r25 => ?_)
        refine x_bipush dX1_lookDown_48 (by decide) ?_
        refine x_icmpeq (tgt := 71) r25 ⟨by decide, by decide⟩ dX1_lookDown_50 (by decide) (fun k26 => ?_) (fun k26 => ?_)
        · have h := h.1 k26
          refine x_iinc 4 rfl [(4, iV (l4_12 + 1)), (0, .ref (x.2.2.1 + 73)), (1, iV p1), (2, iV l2_1), (3, iV l3_11)] dX1_lookDown_71 (show 4 < 5 by decide) rfl ?_
          refine x_goto (tgt := 28) dX1_lookDown_74 (by decide) ?_
          exact x_sub [1, 2, 3, 4, 0] rfl (hJ28 _ _ _ h)
        · have h := h.2 k26
          refine x_iload_n 3 rfl dX1_lookDown_53 ?_
          refine x_aload_n 0 rfl dX1_lookDown_54 ?_
          refine x_aload_n 0 rfl dX1_lookDown_55 ?_
          refine x_getR (j := 6) (r := 179) ly73 (by decide) rfl rfl (by decide) inT1 fl_X1_29 dX1_lookDown_56 ?_
          refine x_iload_n 2 rfl dX1_lookDown_59 ?_
          refine x_aaldI ly179 c15.1 c15.2 (xIb (n := 24) c15 (by decide)) (by decide) dX1_lookDown_60 ?_
          refine x_iload 4 rfl dX1_lookDown_61 ?_
          refine x_iald (lr179 l2_1.toNat (by omega)) c24.1 c24.2 (xIb (n := 25) c24 (by decide)) (by omega) dX1_lookDown_63 (fun r27 => ?_)
          refine x_callVi (As := [iV (μ13 (180 + l2_1.toNat) l4_12.toNat)]) (rest := [iV l3_11]) cal_X1_riseOf ins_X1_riseOf sel_X1_riseOf ly73 (by decide) rfl (xX1_riseOf x (μ13 (180 + l2_1.toNat) l4_12.toNat) _ _ r27 h) rfl ml_X1_107 (xRoom (Nat.le_of_ble_eq_true rfl)) (Nat.le_of_ble_eq_true rfl) dX1_lookDown_64 (fun r30 μ28 i31 n29 h => ?_)
          have h := h i31 n29
          obtain ⟨c32, h⟩ := h
          refine x_min c32 i31 ml_X1_110 (xRoom1 (by decide)) (Nat.le_of_ble_eq_true rfl) dX1_lookDown_67 ?_
          refine x_istore_n [(3, iV (min l3_11 r30)), (0, .ref (x.2.2.1 + 73)), (1, iV p1), (2, iV l2_1), (4, iV l4_12)] dX1_lookDown_70 (show 3 < 5 by decide) rfl ?_
          refine x_iinc 4 rfl [(4, iV (l4_12 + 1)), (3, iV (min l3_11 r30)), (0, .ref (x.2.2.1 + 73)), (1, iV p1), (2, iV l2_1)] dX1_lookDown_71 (show 4 < 5 by decide) rfl ?_
          refine x_goto (tgt := 28) dX1_lookDown_74 (by decide) ?_
          exact x_sub [2, 3, 4, 1, 0] rfl (hJ28 _ _ _ h)
    · have h := h.2 k10
      refine x_goto (tgt := 84) dX1_lookDown_20 (by decide) ?_
      refine x_iinc 2 rfl [(2, iV (l2_1 + 1)), (0, .ref (x.2.2.1 + 73)), (1, iV p1)] dX1_lookDown_84 (show 2 < 5 by decide) rfl ?_
      refine x_goto (tgt := 2) dX1_lookDown_87 (by decide) ?_
      exact x_sub [1, 2, 0] rfl (hJ2 _ _ h)
set_option maxRecDepth 100000 in
set_option maxHeartbeats 4000000 in
theorem xX1_settle_b89 (x : xX)  (b1 : Int) (b2 : Int) (s0 : Nat) (s1 : Int) (s2 : Int) (μ : xM) (Q : xM → Prop) (J18 : Int → xM → Prop) (J26 : Int → xM → Prop)  (gs0 : lay s0 = (1, 24, []) ∧ s0 < 281) (hJ18 : ∀ (c1 : Int) (ν : xM), J18 c1 ν → xW x (xRm 6, RX1, cX1_settle, 4, none, fun _ _ => True) (xQv x Q) 18 [(0, .ref (x.2.2.1 + 73)), (1, iV c1)] [] ν) (hJ26 : ∀ (c2 : Int) (ν : xM), J26 c2 ν → xW x (xRm 6, RX1, cX1_settle, 4, none, fun _ _ => True) (xQv x Q) 26 [(0, .ref (x.2.2.1 + 73)), (1, iV b1), (2, iV c2)] [] ν) (h : tX1_settle_b89  b1 b2 s0 s1 s2 μ Q J18 J26) : xW x (xRm 6, RX1, cX1_settle, 4, none, fun _ _ => True) (xQv x Q) 89 [(0, .ref (x.2.2.1 + 73)), (1, iV b1), (2, iV b2)] [iV s2, iV s1, .ref (x.2.2.1 + s0)] μ := by
  refine x_ran (fun n0 => ?_)
  have h := h n0
  obtain ⟨c40, h⟩ := h
  obtain ⟨c41, h⟩ := h
  refine x_iast gs0.1 c40.1 c40.2 (xIb (n := 24) c40 (by decide)) c41 gs0.2 dX1_settle_89 (fun μ42 e44 n43 => ?_)
  have h := h μ42 e44 n43
  refine x_aload_n 0 rfl dX1_settle_90 ?_
  refine x_getR (j := 2) (r := 100) ly73 (by decide) rfl rfl (by decide) inT1 fl_X1_16 dX1_settle_91 ?_
  refine x_iload_n 1 rfl dX1_settle_94 ?_
  obtain ⟨c45, h⟩ := h
  refine x_aaldI ly100 c45.1 c45.2 (xIb (n := 25) c45 (by decide)) (by decide) dX1_settle_95 ?_
  refine x_iload_n 2 rfl dX1_settle_96 ?_
  obtain ⟨c46, h⟩ := h
  refine x_iald (lr100 b1.toNat (by omega)) c46.1 c46.2 (xIb (n := 24) c46 (by decide)) (by omega) dX1_settle_97 (fun r47 => ?_)
  refine x_iflt (tgt := 107) r47  dX1_settle_98 (by decide) (fun k48 => ?_) (fun k48 => ?_)
  · have h := h.1 k48
    refine x_iinc 2 rfl [(2, iV (b2 + 1)), (0, .ref (x.2.2.1 + 73)), (1, iV b1)] dX1_settle_107 (show 2 < 4 by decide) rfl ?_
    refine x_goto (tgt := 26) dX1_settle_110 (by decide) ?_
    exact x_sub [1, 2, 0] rfl (hJ26 _ _ h)
  · have h := h.2 k48
    refine x_aload_n 0 rfl dX1_settle_101 ?_
    refine x_iload_n 1 rfl dX1_settle_102 ?_
    refine x_iload_n 2 rfl dX1_settle_103 ?_
    obtain ⟨c49, h⟩ := h
    obtain ⟨c50, h⟩ := h
    refine x_callVv (As := [iV b1, iV b2]) (rest := []) cal_X1_link ins_X1_link sel_X1_link ly73 (by decide) rfl (xX1_link x b1 b2 _ _ c49 c50 h) rfl ml_X1_82 (xRoom (Nat.le_of_ble_eq_true rfl)) (Nat.le_of_ble_eq_true rfl) dX1_settle_104 (fun μ51 n52 h => ?_)
    have h := h n52
    refine x_iinc 2 rfl [(2, iV (b2 + 1)), (0, .ref (x.2.2.1 + 73)), (1, iV b1)] dX1_settle_107 (show 2 < 4 by decide) rfl ?_
    refine x_goto (tgt := 26) dX1_settle_110 (by decide) ?_
    exact x_sub [1, 2, 0] rfl (hJ26 _ _ h)
set_option maxRecDepth 100000 in
set_option maxHeartbeats 4000000 in
theorem xX1_settle_b65 (x : xX)  (b1 : Int) (b2 : Int) (s0 : Int) (μ : xM) (Q : xM → Prop) (J18 : Int → xM → Prop) (J26 : Int → xM → Prop)   (hJ18 : ∀ (c1 : Int) (ν : xM), J18 c1 ν → xW x (xRm 6, RX1, cX1_settle, 4, none, fun _ _ => True) (xQv x Q) 18 [(0, .ref (x.2.2.1 + 73)), (1, iV c1)] [] ν) (hJ26 : ∀ (c2 : Int) (ν : xM), J26 c2 ν → xW x (xRm 6, RX1, cX1_settle, 4, none, fun _ _ => True) (xQv x Q) 26 [(0, .ref (x.2.2.1 + 73)), (1, iV b1), (2, iV c2)] [] ν) (h : tX1_settle_b65  b1 b2 s0 μ Q J18 J26) : xW x (xRm 6, RX1, cX1_settle, 4, none, fun _ _ => True) (xQv x Q) 65 [(0, .ref (x.2.2.1 + 73)), (1, iV b1), (2, iV b2)] [iV s0] μ := by
  refine x_ran (fun n0 => ?_)
  have h := h n0
  refine x_istore_n [(3, iV s0), (0, .ref (x.2.2.1 + 73)), (1, iV b1), (2, iV b2)] dX1_settle_65 (show 3 < 4 by decide) rfl ?_
  refine x_aload_n 1 rfl dX1_settle_66 ?_
  refine x_getR (j := 2) (r := 100) ly73 (by decide) rfl rfl (by decide) inT1 fl_X1_16 dX1_settle_67 ?_
  refine x_iload_n 2 rfl dX1_settle_70 ?_
  obtain ⟨c37, h⟩ := h
  refine x_aaldI ly100 c37.1 c37.2 (xIb (n := 25) c37 (by decide)) (by decide) dX1_settle_71 ?_
  refine x_iload_n 3 rfl dX1_settle_72 ?_
  refine x_iload_n 0 rfl dX1_settle_73 ?_
  obtain ⟨c38, h⟩ := h
  refine x_ifeq (tgt := 88) c38  dX1_settle_74 (by decide) (fun k39 => ?_) (fun k39 => ?_)
  · have h := h.1 k39
    refine x_iconst dX1_settle_88 ?_
    exact x_sub [1, 2, 3] rfl (xX1_settle_b89 x b1 b2 (101 + b1.toNat) b2 (-1) μ Q J18 J26 ⟨(lr100 b1.toNat (by omega)), (by omega)⟩ hJ18 hJ26 h)
  · have h := h.2 k39
    refine x_aload_n 1 rfl dX1_settle_77 ?_
    refine x_getR (j := 1) (r := 74) ly73 (by decide) rfl rfl (by decide) inT1 fl_X1_11 dX1_settle_78 ?_
    refine x_iload_n 2 rfl dX1_settle_81 ?_
    refine x_aaldI ly74 c37.1 c37.2 (xIb (n := 25) c37 (by decide)) (by decide) dX1_settle_82 ?_
    refine x_iload_n 3 rfl dX1_settle_83 ?_
    obtain ⟨c53, h⟩ := h
    refine x_iald (lr74 b1.toNat (by omega)) c53.1 c53.2 (xIb (n := 24) c53 (by decide)) (by omega) dX1_settle_84 (fun r54 => ?_)
    refine x_goto (tgt := 89) dX1_settle_85 (by decide) ?_
    exact x_sub [1, 2, 3] rfl (xX1_settle_b89 x b1 b2 (101 + b1.toNat) b2 (μ (75 + b1.toNat) b2.toNat) μ Q J18 J26 ⟨(lr100 b1.toNat (by omega)), (by omega)⟩ hJ18 hJ26 h)
set_option maxRecDepth 100000 in
set_option maxHeartbeats 4000000 in
theorem xX1_settle_b64 (x : xX)  (b1 : Int) (b2 : Int) (μ : xM) (Q : xM → Prop) (J18 : Int → xM → Prop) (J26 : Int → xM → Prop)   (hJ18 : ∀ (c1 : Int) (ν : xM), J18 c1 ν → xW x (xRm 6, RX1, cX1_settle, 4, none, fun _ _ => True) (xQv x Q) 18 [(0, .ref (x.2.2.1 + 73)), (1, iV c1)] [] ν) (hJ26 : ∀ (c2 : Int) (ν : xM), J26 c2 ν → xW x (xRm 6, RX1, cX1_settle, 4, none, fun _ _ => True) (xQv x Q) 26 [(0, .ref (x.2.2.1 + 73)), (1, iV b1), (2, iV c2)] [] ν) (h : tX1_settle_b64  b1 b2 μ Q J18 J26) : xW x (xRm 6, RX1, cX1_settle, 4, none, fun _ _ => True) (xQv x Q) 64 [(0, .ref (x.2.2.1 + 73)), (1, iV b1), (2, iV b2)] [] μ := by
  refine x_ran (fun n0 => ?_)
  have h := h n0
  refine x_iconst dX1_settle_64 ?_
  exact x_sub [0, 1, 2] rfl (xX1_settle_b65 x b1 b2 0 μ Q J18 J26  hJ18 hJ26 h)
set_option maxRecDepth 100000 in
set_option maxHeartbeats 4000000 in
theorem xX1_settle_b49 (x : xX)  (b1 : Int) (b2 : Int) (μ : xM) (Q : xM → Prop) (J18 : Int → xM → Prop) (J26 : Int → xM → Prop)   (hJ18 : ∀ (c1 : Int) (ν : xM), J18 c1 ν → xW x (xRm 6, RX1, cX1_settle, 4, none, fun _ _ => True) (xQv x Q) 18 [(0, .ref (x.2.2.1 + 73)), (1, iV c1)] [] ν) (hJ26 : ∀ (c2 : Int) (ν : xM), J26 c2 ν → xW x (xRm 6, RX1, cX1_settle, 4, none, fun _ _ => True) (xQv x Q) 26 [(0, .ref (x.2.2.1 + 73)), (1, iV b1), (2, iV c2)] [] ν) (h : tX1_settle_b49  b1 b2 μ Q J18 J26) : xW x (xRm 6, RX1, cX1_settle, 4, none, fun _ _ => True) (xQv x Q) 49 [(0, .ref (x.2.2.1 + 73)), (1, iV b1), (2, iV b2)] [] μ := by
  refine x_ran (fun n0 => ?_)
  have h := h n0
  refine x_aload_n 0 rfl dX1_settle_49 ?_
  refine x_getR (j := 0) (r := 39) ly73 (by decide) rfl rfl (by decide) inT1 fl_X1_44 dX1_settle_50 ?_
  refine x_iload_n 2 rfl dX1_settle_53 ?_
  obtain ⟨c31, h⟩ := h
  refine x_callVz (As := [iV b2]) (rest := []) cal_X2_isGood ins_X2_isGood sel_X2_isGood ly39 (by decide) rfl (xX2_isGood x 39 b2 _ _ isHouse_39 c31 h) rfl ml_X1_78 (xRoom (Nat.le_of_ble_eq_true rfl)) (Nat.le_of_ble_eq_true rfl) dX1_settle_54 (fun r34 μ32 i35 n33 h => ?_)
  have h := h i35 n33
  refine x_ifeq (tgt := 64) (xIz i35)  dX1_settle_57 (by decide) (fun k36 => ?_) (fun k36 => ?_)
  · have h := h.1 k36
    exact x_sub [0, 1, 2] rfl (xX1_settle_b64 x b1 b2 μ32 Q J18 J26  hJ18 hJ26 h)
  · have h := h.2 (xz1 i35 k36)
    refine x_iconst dX1_settle_60 ?_
    refine x_goto (tgt := 65) dX1_settle_61 (by decide) ?_
    exact x_sub [0, 1, 2] rfl (xX1_settle_b65 x b1 b2 1 μ32 Q J18 J26  hJ18 hJ26 h)
set_option maxRecDepth 100000 in
set_option maxHeartbeats 4000000 in
theorem xX1_settle (x : xX)  (μ : xM) (Q : xM → Prop)  (h : tX1_settle  μ Q) : xMet x 6 yX1_settle cX1_settle 4 none [.ref (x.2.2.1 + 73)] μ (xQv x Q) := by
  refine xMet_of (by decide +kernel) (Nat.le_of_ble_eq_true rfl) ?_
  show xW x (xRm 6, RX1, cX1_settle, 4, none, fun _ _ => True) (xQv x Q) 0 [(0, .ref (x.2.2.1 + 73))] [] μ
  refine x_ran (fun n0 => ?_)
  have h := h n0 
  refine x_aload_n 0 rfl dX1_settle_0 ?_
  refine x_getR (j := 5) (r := 178) ly73 (by decide) rfl rfl (by decide) inT1 fl_X1_25 dX1_settle_1 ?_
  refine x_iconst dX1_settle_4 ?_
  refine x_callSv (As := [.ref (x.2.2.1 + 178), iV 0]) (rest := []) cal_J7_fill_53178 sta_J7_fill_53178 (xJ7_fill_53178 x 178 25 0 _ _ ⟨ly178, (by decide), (by decide)⟩ ⟨by decide, by decide⟩ h) rfl ml_X1_72 (xRoom (Nat.le_of_ble_eq_true rfl)) (Nat.le_of_ble_eq_true rfl) dX1_settle_5 (fun μ1 n2 h => ?_)
  have h := h n2
  refine x_aload_n 0 rfl dX1_settle_8 ?_
  refine x_getR (j := 7) (r := 204) ly73 (by decide) rfl rfl (by decide) inT1 fl_X1_32 dX1_settle_9 ?_
  refine x_iconst dX1_settle_12 ?_
  refine x_callSv (As := [.ref (x.2.2.1 + 204), iV 0]) (rest := []) cal_J7_fill_53178 sta_J7_fill_53178 (xJ7_fill_53178 x 204 24 0 _ _ ⟨ly204, (by decide), (by decide)⟩ ⟨by decide, by decide⟩ h) rfl ml_X1_72 (xRoom (Nat.le_of_ble_eq_true rfl)) (Nat.le_of_ble_eq_true rfl) dX1_settle_13 (fun μ3 n4 h => ?_)
  have h := h n4
  refine x_iconst dX1_settle_16 ?_
  refine x_istore_n [(1, iV 0), (0, .ref (x.2.2.1 + 73))] dX1_settle_17 (show 1 < 4 by decide) rfl ?_
  refine x_sub [1, 0] rfl ?_
  refine x_loop1 (fun l1_5 => [(0, .ref (x.2.2.1 + 73)), (1, iV l1_5)]) h (fun J18 l1_5 μ6 hJ18 h n7 => ?_)
  refine x_iload_n 1 rfl dX1_settle_18 ?_
  refine x_bipush dX1_settle_19 (by decide) ?_
  obtain ⟨c8, h⟩ := h
  refine x_icmpge (tgt := 119) c8 ⟨by decide, by decide⟩ dX1_settle_21 (by decide) (fun k9 => ?_) (fun k9 => ?_)
  · have h := h.1 k9
    refine x_bipush dX1_settle_119 (by decide) ?_
    refine x_istore_n [(1, iV 6), (0, .ref (x.2.2.1 + 73))] dX1_settle_121 (show 1 < 4 by decide) rfl ?_
    refine x_sub [1, 0] rfl ?_
    refine x_loop1 (fun l1_10 => [(0, .ref (x.2.2.1 + 73)), (1, iV l1_10)]) h (fun J122 l1_10 μ11 hJ122 h n12 => ?_)
    refine x_iload_n 1 rfl dX1_settle_122 ?_
    obtain ⟨c13, h⟩ := h
    refine x_iflt (tgt := 137) c13  dX1_settle_123 (by decide) (fun k14 => ?_) (fun k14 => ?_)
    · have h := h.1 k14
      refine x_iconst dX1_settle_137 ?_
      refine x_istore_n [(1, iV 1), (0, .ref (x.2.2.1 + 73))] dX1_settle_138 (show 1 < 4 by decide) rfl ?_
      refine x_sub [1, 0] rfl ?_
      refine x_loop1 (fun l1_15 => [(0, .ref (x.2.2.1 + 73)), (1, iV l1_15)]) h (fun J139 l1_15 μ16 hJ139 h n17 => ?_)
      refine x_iload_n 1 rfl dX1_settle_139 ?_
      refine x_bipush dX1_settle_140 (by decide) ?_
      obtain ⟨c18, h⟩ := h
      refine x_icmpgt (tgt := 156) c18 ⟨by decide, by decide⟩ dX1_settle_142 (by decide) (fun k19 => ?_) (fun k19 => ?_)
      · have h := h.1 k19
        exact x_vret h rfl dX1_settle_156
      · have h := h.2 k19
        refine x_aload_n 0 rfl dX1_settle_145 ?_
        refine x_iload_n 1 rfl dX1_settle_146 ?_
        refine x_callVv (As := [iV l1_15]) (rest := []) cal_X1_lookDown ins_X1_lookDown sel_X1_lookDown ly73 (by decide) rfl (xX1_lookDown x l1_15 _ _ c18 h) rfl ml_X1_90 (xRoom (Nat.le_of_ble_eq_true rfl)) (Nat.le_of_ble_eq_true rfl) dX1_settle_147 (fun μ20 n21 h => ?_)
        have h := h n21
        refine x_iinc 1 rfl [(1, iV (l1_15 + 1)), (0, .ref (x.2.2.1 + 73))] dX1_settle_150 (show 1 < 4 by decide) rfl ?_
        refine x_goto (tgt := 139) dX1_settle_153 (by decide) ?_
        exact x_sub [1, 0] rfl (hJ139 _ _ h)
    · have h := h.2 k14
      refine x_aload_n 0 rfl dX1_settle_126 ?_
      refine x_iload_n 1 rfl dX1_settle_127 ?_
      refine x_callVv (As := [iV l1_10]) (rest := []) cal_X1_lookUp ins_X1_lookUp sel_X1_lookUp ly73 (by decide) rfl (xX1_lookUp x l1_10 _ _ c13 h) rfl ml_X1_86 (xRoom (Nat.le_of_ble_eq_true rfl)) (Nat.le_of_ble_eq_true rfl) dX1_settle_128 (fun μ22 n23 h => ?_)
      have h := h n23
      refine x_iinc 1 rfl [(1, iV (l1_10 + (-1))), (0, .ref (x.2.2.1 + 73))] dX1_settle_131 (show 1 < 4 by decide) rfl ?_
      refine x_goto (tgt := 122) dX1_settle_134 (by decide) ?_
      exact x_sub [1, 0] rfl (hJ122 _ _ h)
  · have h := h.2 k9
    refine x_iconst dX1_settle_24 ?_
    refine x_istore_n [(2, iV 0), (0, .ref (x.2.2.1 + 73)), (1, iV l1_5)] dX1_settle_25 (show 2 < 4 by decide) rfl ?_
    refine x_sub [1, 2, 0] rfl ?_
    refine x_loop1 (fun l2_24 => [(0, .ref (x.2.2.1 + 73)), (1, iV l1_5), (2, iV l2_24)]) h (fun J26 l2_24 μ25 hJ26 h n26 => ?_)
    refine x_iload_n 2 rfl dX1_settle_26 ?_
    refine x_bipush dX1_settle_27 (by decide) ?_
    obtain ⟨c27, h⟩ := h
    refine x_icmpge (tgt := 113) c27 ⟨by decide, by decide⟩ dX1_settle_29 (by decide) (fun k28 => ?_) (fun k28 => ?_)
    · have h := h.1 k28
      refine x_iinc 1 rfl [(1, iV (l1_5 + 1)), (0, .ref (x.2.2.1 + 73)), (2, iV l2_24)] dX1_settle_113 (show 1 < 4 by decide) rfl ?_
      refine x_goto (tgt := 18) dX1_settle_116 (by decide) ?_
      exact x_sub [1, 0] rfl (hJ18 _ _ h)
    · have h := h.2 k28
      refine x_iload_n 1 rfl dX1_settle_32 ?_
      refine x_bipush dX1_settle_33 (by decide) ?_
      obtain ⟨c29, h⟩ := h
      refine x_icmpeq (tgt := 49) c29 ⟨by decide, by decide⟩ dX1_settle_35 (by decide) (fun k30 => ?_) (fun k30 => ?_)
      · have h := h.1 k30
        exact x_sub [0, 1, 2] rfl (xX1_settle_b49 x l1_5 l2_24 μ25 Q J18 J26  hJ18 hJ26 h)
      · have h := h.2 k30
        refine x_aload_n 0 rfl dX1_settle_38 ?_
        refine x_getR (j := 0) (r := 39) ly73 (by decide) rfl rfl (by decide) inT1 fl_X1_44 dX1_settle_39 ?_
        refine x_iload_n 1 rfl dX1_settle_42 ?_
        refine x_callVz (As := [iV l1_5]) (rest := []) cal_X2_isGood ins_X2_isGood sel_X2_isGood ly39 (by decide) rfl (xX2_isGood x 39 l1_5 _ _ isHouse_39 c29 h) rfl ml_X1_78 (xRoom (Nat.le_of_ble_eq_true rfl)) (Nat.le_of_ble_eq_true rfl) dX1_settle_43 (fun r57 μ55 i58 n56 h => ?_)
        have h := h i58 n56
        refine x_ifeq (tgt := 64) (xIz i58)  dX1_settle_46 (by decide) (fun k59 => ?_) (fun k59 => ?_)
        · have h := h.1 k59
          exact x_sub [0, 1, 2] rfl (xX1_settle_b64 x l1_5 l2_24 μ55 Q J18 J26  hJ18 hJ26 h)
        · have h := h.2 (xz1 i58 k59)
          exact x_sub [0, 1, 2] rfl (xX1_settle_b49 x l1_5 l2_24 μ55 Q J18 J26  hJ18 hJ26 h)
set_option maxRecDepth 100000 in
set_option maxHeartbeats 4000000 in
theorem xX1_weave (x : xX)  (μ : xM) (Q : xM → Prop)  (h : tX1_weave  μ Q) : xMet x 7 yX1_weave cX1_weave 3 none [.ref (x.2.2.1 + 73)] μ (xQv x Q) := by
  refine xMet_of (by decide +kernel) (Nat.le_of_ble_eq_true rfl) ?_
  show xW x (xRm 7, RX1, cX1_weave, 3, none, fun _ _ => True) (xQv x Q) 0 [(0, .ref (x.2.2.1 + 73))] [] μ
  refine x_ran (fun n0 => ?_)
  have h := h n0 
  refine x_iconst dX1_weave_0 ?_
  refine x_istore_n [(1, iV 0), (0, .ref (x.2.2.1 + 73))] dX1_weave_1 (show 1 < 3 by decide) rfl ?_
  refine x_sub [1, 0] rfl ?_
  refine x_loop1 (fun l1_1 => [(0, .ref (x.2.2.1 + 73)), (1, iV l1_1)]) h (fun J2 l1_1 μ2 hJ2 h n3 => ?_)
  refine x_iload_n 1 rfl dX1_weave_2 ?_
  refine x_bipush dX1_weave_3 (by decide) ?_
  obtain ⟨c4, h⟩ := h
  refine x_icmpge (tgt := 76) c4 ⟨by decide, by decide⟩ dX1_weave_5 (by decide) (fun k5 => ?_) (fun k5 => ?_)
  · have h := h.1 k5
    refine x_aload_n 0 rfl dX1_weave_76 ?_
    refine x_callVv (As := []) (rest := []) cal_X1_settle ins_X1_settle sel_X1_settle ly73 (by decide) rfl (xX1_settle x  _ _  h) rfl ml_X1_61 (xRoom (Nat.le_of_ble_eq_true rfl)) (Nat.le_of_ble_eq_true rfl) dX1_weave_77 (fun μ6 n7 h => ?_)
    have h := h n7
    exact x_vret h rfl dX1_weave_80
  · have h := h.2 k5
    refine x_iconst dX1_weave_8 ?_
    refine x_istore_n [(2, iV 0), (0, .ref (x.2.2.1 + 73)), (1, iV l1_1)] dX1_weave_9 (show 2 < 3 by decide) rfl ?_
    refine x_sub [1, 2, 0] rfl ?_
    refine x_loop1 (fun l2_8 => [(0, .ref (x.2.2.1 + 73)), (1, iV l1_1), (2, iV l2_8)]) h (fun J10 l2_8 μ9 hJ10 h n10 => ?_)
    refine x_iload_n 2 rfl dX1_weave_10 ?_
    refine x_bipush dX1_weave_11 (by decide) ?_
    obtain ⟨c11, h⟩ := h
    refine x_icmpge (tgt := 36) c11 ⟨by decide, by decide⟩ dX1_weave_13 (by decide) (fun k12 => ?_) (fun k12 => ?_)
    · have h := h.1 k12
      refine x_aload_n 0 rfl dX1_weave_36 ?_
      refine x_getR (j := 1) (r := 74) ly73 (by decide) rfl rfl (by decide) inT1 fl_X1_11 dX1_weave_37 ?_
      refine x_bipush dX1_weave_40 (by decide) ?_
      refine x_aaldI ly74 (by decide) (by decide) ⟨by decide, by decide⟩ (by decide) dX1_weave_42 ?_
      refine x_iload_n 1 rfl dX1_weave_43 ?_
      refine x_aload_n 0 rfl dX1_weave_44 ?_
      refine x_getR (j := 0) (r := 39) ly73 (by decide) rfl rfl (by decide) inT1 fl_X1_44 dX1_weave_45 ?_
      refine x_iload_n 1 rfl dX1_weave_48 ?_
      obtain ⟨c13, h⟩ := h
      refine x_callVi (As := [iV l1_1]) (rest := [iV l1_1, .ref (x.2.2.1 + (75 + 24))]) cal_X2_lengthOf ins_X2_lengthOf sel_X2_lengthOf ly39 (by decide) rfl (xX2_lengthOf x 39 l1_1 _ _ isHouse_39 c13 h) rfl ml_X1_52 (xRoom (Nat.le_of_ble_eq_true rfl)) (Nat.le_of_ble_eq_true rfl) dX1_weave_49 (fun r16 μ14 i17 n15 h => ?_)
      have h := h i17 n15
      refine x_iconst dX1_weave_52 ?_
      refine x_icmpne (tgt := 68) i17 ⟨by decide, by decide⟩ dX1_weave_53 (by decide) (fun k18 => ?_) (fun k18 => ?_)
      · have h := h.1 k18
        refine x_iconst dX1_weave_68 ?_
        obtain ⟨c19, h⟩ := h
        refine x_iast (lr74 24 (by omega)) c19.1 c19.2 (xIb (n := 24) c19 (by decide)) ⟨by decide, by decide⟩ (by omega) dX1_weave_69 (fun μ20 e22 n21 => ?_)
        have h := h μ20 e22 n21
        refine x_iinc 1 rfl [(1, iV (l1_1 + 1)), (0, .ref (x.2.2.1 + 73)), (2, iV l2_8)] dX1_weave_70 (show 1 < 3 by decide) rfl ?_
        refine x_goto (tgt := 2) dX1_weave_73 (by decide) ?_
        exact x_sub [1, 0] rfl (hJ2 _ _ h)
      · have h := h.2 k18
        refine x_aload_n 0 rfl dX1_weave_56 ?_
        refine x_getR (j := 0) (r := 39) ly73 (by decide) rfl rfl (by decide) inT1 fl_X1_44 dX1_weave_57 ?_
        refine x_iload_n 1 rfl dX1_weave_60 ?_
        refine x_iconst dX1_weave_61 ?_
        refine x_callVi (As := [iV l1_1, iV 0]) (rest := [iV l1_1, .ref (x.2.2.1 + (75 + 24))]) cal_X2_glyphOf ins_X2_glyphOf sel_X2_glyphOf ly39 (by decide) rfl (xX2_glyphOf x 39 l1_1 0 _ _ isHouse_39 c13 ⟨by decide, by decide⟩ h) rfl ml_X1_58 (xRoom (Nat.le_of_ble_eq_true rfl)) (Nat.le_of_ble_eq_true rfl) dX1_weave_62 (fun r25 μ23 i26 n24 h => ?_)
        have h := h i26 n24
        refine x_goto (tgt := 69) dX1_weave_65 (by decide) ?_
        obtain ⟨c27, h⟩ := h
        refine x_iast (lr74 24 (by omega)) c27.1 c27.2 (xIb (n := 24) c27 (by decide)) i26 (by omega) dX1_weave_69 (fun μ28 e30 n29 => ?_)
        have h := h μ28 e30 n29
        refine x_iinc 1 rfl [(1, iV (l1_1 + 1)), (0, .ref (x.2.2.1 + 73)), (2, iV l2_8)] dX1_weave_70 (show 1 < 3 by decide) rfl ?_
        refine x_goto (tgt := 2) dX1_weave_73 (by decide) ?_
        exact x_sub [1, 0] rfl (hJ2 _ _ h)
    · have h := h.2 k12
      refine x_aload_n 0 rfl dX1_weave_16 ?_
      refine x_getR (j := 1) (r := 74) ly73 (by decide) rfl rfl (by decide) inT1 fl_X1_11 dX1_weave_17 ?_
      refine x_iload_n 2 rfl dX1_weave_20 ?_
      obtain ⟨c31, h⟩ := h
      refine x_aaldI ly74 c31.1 c31.2 (xIb (n := 25) c31 (by decide)) (by decide) dX1_weave_21 ?_
      refine x_iload_n 1 rfl dX1_weave_22 ?_
      refine x_aload_n 0 rfl dX1_weave_23 ?_
      refine x_iload_n 2 rfl dX1_weave_24 ?_
      refine x_iload_n 1 rfl dX1_weave_25 ?_
      obtain ⟨c32, h⟩ := h
      refine x_callVi (As := [iV l2_8, iV l1_1]) (rest := [iV l1_1, .ref (x.2.2.1 + (75 + l2_8.toNat))]) cal_X1_letterBetween ins_X1_letterBetween sel_X1_letterBetween ly73 (by decide) rfl (xX1_letterBetween x l2_8 l1_1 _ _ c11 c32 h) rfl ml_X1_48 (xRoom (Nat.le_of_ble_eq_true rfl)) (Nat.le_of_ble_eq_true rfl) dX1_weave_26 (fun r35 μ33 i36 n34 h => ?_)
      have h := h i36 n34
      obtain ⟨c37, h⟩ := h
      refine x_iast (lr74 l2_8.toNat (by omega)) c37.1 c37.2 (xIb (n := 24) c37 (by decide)) i36 (by omega) dX1_weave_29 (fun μ38 e40 n39 => ?_)
      have h := h μ38 e40 n39
      refine x_iinc 2 rfl [(2, iV (l2_8 + 1)), (0, .ref (x.2.2.1 + 73)), (1, iV l1_1)] dX1_weave_30 (show 2 < 3 by decide) rfl ?_
      refine x_goto (tgt := 10) dX1_weave_33 (by decide) ?_
      exact x_sub [1, 2, 0] rfl (hJ10 _ _ h)
set_option maxRecDepth 100000 in
set_option maxHeartbeats 4000000 in
theorem xX1_letterOf (x : xX) (p1 : Int) (p2 : Int) (μ : xM) (Q : Int → xM → Prop) (hp1 : xIn p1) (hp2 : xIn p2) (h : tX1_letterOf p1 p2 μ Q) : xMet x 2 yX1_letterOf cX1_letterOf 3 (some .int) [.ref (x.2.2.1 + 73), iV p1, iV p2] μ (xQi x Q) := by
  refine xMet_of (by decide +kernel) (Nat.le_of_ble_eq_true rfl) ?_
  show xW x (xRm 2, RX1, cX1_letterOf, 3, (some .int), fun _ _ => True) (xQi x Q) 0 [(0, .ref (x.2.2.1 + 73)), (1, iV p1), (2, iV p2)] [] μ
  refine x_ran (fun n0 => ?_)
  have h := h n0 hp1 hp2
  refine x_aload_n 0 rfl dX1_letterOf_0 ?_
  refine x_iload_n 1 rfl dX1_letterOf_1 ?_
  refine x_callVz (As := [iV p1]) (rest := []) cal_X1_isKind ins_X1_isKind sel_X1_isKind ly73 (by decide) rfl (xX1_isKind x p1 _ _ hp1 h) rfl ml_X1_113 (xRoom (Nat.le_of_ble_eq_true rfl)) (Nat.le_of_ble_eq_true rfl) dX1_letterOf_2 (fun r3 μ1 i4 n2 h => ?_)
  have h := h i4 n2
  refine x_ifeq (tgt := 27) (xIz i4)  dX1_letterOf_5 (by decide) (fun k5 => ?_) (fun k5 => ?_)
  · have h := h.1 k5
    refine x_iconst dX1_letterOf_27 ?_
    exact x_iret h ⟨by decide, by decide⟩ rfl dX1_letterOf_28
  · have h := h.2 (xz1 i4 k5)
    refine x_aload_n 0 rfl dX1_letterOf_8 ?_
    refine x_iload_n 2 rfl dX1_letterOf_9 ?_
    refine x_callVz (As := [iV p2]) (rest := []) cal_X1_isSpot ins_X1_isSpot sel_X1_isSpot ly73 (by decide) rfl (xX1_isSpot x p2 _ _ hp2 h) rfl ml_X1_116 (xRoom (Nat.le_of_ble_eq_true rfl)) (Nat.le_of_ble_eq_true rfl) dX1_letterOf_10 (fun r8 μ6 i9 n7 h => ?_)
    have h := h i9 n7
    refine x_ifeq (tgt := 27) (xIz i9)  dX1_letterOf_13 (by decide) (fun k10 => ?_) (fun k10 => ?_)
    · have h := h.1 k10
      refine x_iconst dX1_letterOf_27 ?_
      exact x_iret h ⟨by decide, by decide⟩ rfl dX1_letterOf_28
    · have h := h.2 (xz1 i9 k10)
      refine x_aload_n 0 rfl dX1_letterOf_16 ?_
      refine x_getR (j := 2) (r := 100) ly73 (by decide) rfl rfl (by decide) inT1 fl_X1_16 dX1_letterOf_17 ?_
      refine x_iload_n 1 rfl dX1_letterOf_20 ?_
      obtain ⟨c11, h⟩ := h
      refine x_aaldI ly100 c11.1 c11.2 hp1 (by decide) dX1_letterOf_21 ?_
      refine x_iload_n 2 rfl dX1_letterOf_22 ?_
      obtain ⟨c12, h⟩ := h
      refine x_iald (lr100 p1.toNat (by omega)) c12.1 c12.2 hp2 (by omega) dX1_letterOf_23 (fun r13 => ?_)
      refine x_goto (tgt := 28) dX1_letterOf_24 (by decide) ?_
      exact x_iret h r13 rfl dX1_letterOf_28
set_option maxRecDepth 100000 in
set_option maxHeartbeats 4000000 in
theorem xX1_downs (x : xX) (p1 : Int) (μ : xM) (Q : Int → xM → Prop) (hp1 : xIn p1) (h : tX1_downs p1 μ Q) : xMet x 2 yX1_downs cX1_downs 2 (some .int) [.ref (x.2.2.1 + 73), iV p1] μ (xQi x Q) := by
  refine xMet_of (by decide +kernel) (Nat.le_of_ble_eq_true rfl) ?_
  show xW x (xRm 2, RX1, cX1_downs, 2, (some .int), fun _ _ => True) (xQi x Q) 0 [(0, .ref (x.2.2.1 + 73)), (1, iV p1)] [] μ
  refine x_ran (fun n0 => ?_)
  have h := h n0 hp1
  refine x_aload_n 0 rfl dX1_downs_0 ?_
  refine x_iload_n 1 rfl dX1_downs_1 ?_
  refine x_callVz (As := [iV p1]) (rest := []) cal_X1_isSpot ins_X1_isSpot sel_X1_isSpot ly73 (by decide) rfl (xX1_isSpot x p1 _ _ hp1 h) rfl ml_X1_116 (xRoom (Nat.le_of_ble_eq_true rfl)) (Nat.le_of_ble_eq_true rfl) dX1_downs_2 (fun r3 μ1 i4 n2 h => ?_)
  have h := h i4 n2
  refine x_ifeq (tgt := 17) (xIz i4)  dX1_downs_5 (by decide) (fun k5 => ?_) (fun k5 => ?_)
  · have h := h.1 k5
    refine x_iconst dX1_downs_17 ?_
    exact x_iret h ⟨by decide, by decide⟩ rfl dX1_downs_18
  · have h := h.2 (xz1 i4 k5)
    refine x_aload_n 0 rfl dX1_downs_8 ?_
    refine x_getR (j := 7) (r := 204) ly73 (by decide) rfl rfl (by decide) inT1 fl_X1_32 dX1_downs_9 ?_
    refine x_iload_n 1 rfl dX1_downs_12 ?_
    obtain ⟨c6, h⟩ := h
    refine x_iald ly204 c6.1 c6.2 hp1 (by decide) dX1_downs_13 (fun r7 => ?_)
    refine x_goto (tgt := 18) dX1_downs_14 (by decide) ?_
    exact x_iret h r7 rfl dX1_downs_18
set_option maxRecDepth 100000 in
set_option maxHeartbeats 4000000 in
theorem xX1_downOf (x : xX) (p1 : Int) (p2 : Int) (μ : xM) (Q : Int → xM → Prop) (hp1 : xIn p1) (hp2 : xIn p2) (h : tX1_downOf p1 p2 μ Q) : xMet x 2 yX1_downOf cX1_downOf 3 (some .int) [.ref (x.2.2.1 + 73), iV p1, iV p2] μ (xQi x Q) := by
  refine xMet_of (by decide +kernel) (Nat.le_of_ble_eq_true rfl) ?_
  show xW x (xRm 2, RX1, cX1_downOf, 3, (some .int), fun _ _ => True) (xQi x Q) 0 [(0, .ref (x.2.2.1 + 73)), (1, iV p1), (2, iV p2)] [] μ
  refine x_ran (fun n0 => ?_)
  have h := h n0 hp1 hp2
  refine x_aload_n 0 rfl dX1_downOf_0 ?_
  refine x_iload_n 1 rfl dX1_downOf_1 ?_
  refine x_callVz (As := [iV p1]) (rest := []) cal_X1_isSpot ins_X1_isSpot sel_X1_isSpot ly73 (by decide) rfl (xX1_isSpot x p1 _ _ hp1 h) rfl ml_X1_116 (xRoom (Nat.le_of_ble_eq_true rfl)) (Nat.le_of_ble_eq_true rfl) dX1_downOf_2 (fun r3 μ1 i4 n2 h => ?_)
  have h := h i4 n2
  refine x_ifeq (tgt := 27) (xIz i4)  dX1_downOf_5 (by decide) (fun k5 => ?_) (fun k5 => ?_)
  · have h := h.1 k5
    refine x_iconst dX1_downOf_27 ?_
    exact x_iret h ⟨by decide, by decide⟩ rfl dX1_downOf_28
  · have h := h.2 (xz1 i4 k5)
    refine x_aload_n 0 rfl dX1_downOf_8 ?_
    refine x_iload_n 2 rfl dX1_downOf_9 ?_
    refine x_callVz (As := [iV p2]) (rest := []) cal_X1_isKind ins_X1_isKind sel_X1_isKind ly73 (by decide) rfl (xX1_isKind x p2 _ _ hp2 h) rfl ml_X1_113 (xRoom (Nat.le_of_ble_eq_true rfl)) (Nat.le_of_ble_eq_true rfl) dX1_downOf_10 (fun r8 μ6 i9 n7 h => ?_)
    have h := h i9 n7
    refine x_ifeq (tgt := 27) (xIz i9)  dX1_downOf_13 (by decide) (fun k10 => ?_) (fun k10 => ?_)
    · have h := h.1 k10
      refine x_iconst dX1_downOf_27 ?_
      exact x_iret h ⟨by decide, by decide⟩ rfl dX1_downOf_28
    · have h := h.2 (xz1 i9 k10)
      refine x_aload_n 0 rfl dX1_downOf_16 ?_
      refine x_getR (j := 6) (r := 179) ly73 (by decide) rfl rfl (by decide) inT1 fl_X1_29 dX1_downOf_17 ?_
      refine x_iload_n 1 rfl dX1_downOf_20 ?_
      obtain ⟨c11, h⟩ := h
      refine x_aaldI ly179 c11.1 c11.2 hp1 (by decide) dX1_downOf_21 ?_
      refine x_iload_n 2 rfl dX1_downOf_22 ?_
      obtain ⟨c12, h⟩ := h
      refine x_iald (lr179 p1.toNat (by omega)) c12.1 c12.2 hp2 (by omega) dX1_downOf_23 (fun r13 => ?_)
      refine x_goto (tgt := 28) dX1_downOf_24 (by decide) ?_
      exact x_iret h r13 rfl dX1_downOf_28
set_option maxRecDepth 100000 in
set_option maxHeartbeats 4000000 in
theorem xX1_waysBy (x : xX) (p1 : Int) (p2 : Int) (μ : xM) (Q : Int → xM → Prop) (hp1 : xIn p1) (hp2 : xIn p2) (h : tX1_waysBy p1 p2 μ Q) : xMet x 3 yX1_waysBy cX1_waysBy 5 (some .int) [.ref (x.2.2.1 + 73), iV p1, iV p2] μ (xQi x Q) := by
  refine xMet_of (by decide +kernel) (Nat.le_of_ble_eq_true rfl) ?_
  show xW x (xRm 3, RX1, cX1_waysBy, 5, (some .int), fun _ _ => True) (xQi x Q) 0 [(0, .ref (x.2.2.1 + 73)), (1, iV p1), (2, iV p2)] [] μ
  refine x_ran (fun n0 => ?_)
  have h := h n0 hp1 hp2
  refine x_iconst dX1_waysBy_0 ?_
  refine x_istore_n [(3, iV 0), (0, .ref (x.2.2.1 + 73)), (1, iV p1), (2, iV p2)] dX1_waysBy_1 (show 3 < 5 by decide) rfl ?_
  refine x_iconst dX1_waysBy_2 ?_
  refine x_istore [(4, iV 0), (3, iV 0), (0, .ref (x.2.2.1 + 73)), (1, iV p1), (2, iV p2)] dX1_waysBy_3 (show 4 < 5 by decide) rfl ?_
  refine x_sub [2, 3, 4, 1, 0] rfl ?_
  refine x_loop2 (fun l3_1 l4_2 => [(0, .ref (x.2.2.1 + 73)), (1, iV p1), (2, iV p2), (3, iV l3_1), (4, iV l4_2)]) h (fun J5 l3_1 l4_2 μ3 hJ5 h n4 => ?_)
  refine x_iload 4 rfl dX1_waysBy_5 ?_
  refine x_aload_n 0 rfl dX1_waysBy_7 ?_
  refine x_iload_n 1 rfl dX1_waysBy_8 ?_
  refine x_callVi (As := [iV p1]) (rest := [iV l4_2]) cal_X1_ups ins_X1_ups sel_X1_ups ly73 (by decide) rfl (xX1_ups x p1 _ _ hp1 h) rfl ml_X1_119 (xRoom (Nat.le_of_ble_eq_true rfl)) (Nat.le_of_ble_eq_true rfl) dX1_waysBy_9 (fun r7 μ5 i8 n6 h => ?_)
  have h := h i8 n6
  obtain ⟨c9, h⟩ := h
  refine x_icmpge (tgt := 35) c9 i8 dX1_waysBy_12 (by decide) (fun k10 => ?_) (fun k10 => ?_)
  · have h := h.1 k10
    refine x_iload_n 3 rfl dX1_waysBy_35 ?_
    obtain ⟨c11, h⟩ := h
    exact x_iret h c11 rfl dX1_waysBy_36
  · have h := h.2 k10
    refine x_aload_n 0 rfl dX1_waysBy_15 ?_
    refine x_iload_n 1 rfl dX1_waysBy_16 ?_
    refine x_iload 4 rfl dX1_waysBy_17 ?_
    refine x_callVi (As := [iV p1, iV l4_2]) (rest := []) cal_X1_byOf ins_X1_byOf sel_X1_byOf ly73 (by decide) rfl (xX1_byOf x p1 l4_2 _ _ hp1 c9 h) rfl ml_X1_122 (xRoom (Nat.le_of_ble_eq_true rfl)) (Nat.le_of_ble_eq_true rfl) dX1_waysBy_19 (fun r14 μ12 i15 n13 h => ?_)
    have h := h i15 n13
    refine x_iload_n 2 rfl dX1_waysBy_22 ?_
    refine x_icmpne (tgt := 29) i15 hp2 dX1_waysBy_23 (by decide) (fun k16 => ?_) (fun k16 => ?_)
    · have h := h.1 k16
      refine x_iinc 4 rfl [(4, iV (l4_2 + 1)), (0, .ref (x.2.2.1 + 73)), (1, iV p1), (2, iV p2), (3, iV l3_1)] dX1_waysBy_29 (show 4 < 5 by decide) rfl ?_
      refine x_goto (tgt := 5) dX1_waysBy_32 (by decide) ?_
      exact x_sub [1, 2, 3, 4, 0] rfl (hJ5 _ _ _ h)
    · have h := h.2 k16
      refine x_iinc 3 rfl [(3, iV (l3_1 + 1)), (0, .ref (x.2.2.1 + 73)), (1, iV p1), (2, iV p2), (4, iV l4_2)] dX1_waysBy_26 (show 3 < 5 by decide) rfl ?_
      refine x_iinc 4 rfl [(4, iV (l4_2 + 1)), (3, iV (l3_1 + 1)), (0, .ref (x.2.2.1 + 73)), (1, iV p1), (2, iV p2)] dX1_waysBy_29 (show 4 < 5 by decide) rfl ?_
      refine x_goto (tgt := 5) dX1_waysBy_32 (by decide) ?_
      exact x_sub [2, 3, 4, 1, 0] rfl (hJ5 _ _ _ h)
set_option maxRecDepth 100000 in
set_option maxHeartbeats 4000000 in
theorem xX2_clear (x : xX) (o : Nat) (μ : xM) (Q : xM → Prop) (ho : isHouse o) (h : tX2_clear o μ Q) : xMet x 1 yX2_clear cX2_clear 1 none [.ref (x.2.2.1 + o)] μ (xQv x Q) := by
  refine xMet_of (by decide +kernel) (Nat.le_of_ble_eq_true rfl) ?_
  show xW x (xRm 1, RX2, cX2_clear, 1, none, fun _ _ => True) (xQv x Q) 0 [(0, .ref (x.2.2.1 + o))] [] μ
  refine x_ran (fun n0 => ?_)
  have h := h n0 
  refine x_aload_n 0 rfl dX2_clear_0 ?_
  refine x_iconst dX2_clear_1 ?_
  refine x_putI (j := 0) ho.1 (by have := ho.2.1; omega) rfl rfl (by decide) inT2 fl_X2_45 tyX2 tyX2_ok nmX2 rfl ⟨by decide, by decide⟩ (by decide +kernel) dX2_clear_2 (fun μ1 e3 n2 => ?_)
  have h := h μ1 e3 n2
  refine x_aload_n 0 rfl dX2_clear_5 ?_
  refine x_iconst dX2_clear_6 ?_
  refine x_putI (j := 1) ho.1 (by have := ho.2.1; omega) rfl rfl (by decide) inT2 fl_X2_49 tyX2 tyX2_ok nmX2 rfl ⟨by decide, by decide⟩ (by decide +kernel) dX2_clear_7 (fun μ4 e6 n5 => ?_)
  have h := h μ4 e6 n5
  refine x_aload_n 0 rfl dX2_clear_10 ?_
  refine x_iconst dX2_clear_11 ?_
  refine x_putI (j := 2) ho.1 (by have := ho.2.1; omega) rfl rfl (by decide) inT2 fl_X2_52 tyX2 tyX2_ok nmX2 rfl ⟨by decide, by decide⟩ (by decide +kernel) dX2_clear_12 (fun μ7 e9 n8 => ?_)
  have h := h μ7 e9 n8
  refine x_aload_n 0 rfl dX2_clear_15 ?_
  refine x_iconst dX2_clear_16 ?_
  refine x_putI (j := 3) ho.1 (by have := ho.2.1; omega) rfl rfl (by decide) inT2 fl_X2_55 tyX2 tyX2_ok nmX2 rfl ⟨by decide, by decide⟩ (by decide +kernel) dX2_clear_17 (fun μ10 e12 n11 => ?_)
  have h := h μ10 e12 n11
  refine x_aload_n 0 rfl dX2_clear_20 ?_
  refine x_iconst dX2_clear_21 ?_
  refine x_putI (j := 4) ho.1 (by have := ho.2.1; omega) rfl rfl (by decide) inT2 fl_X2_58 tyX2 tyX2_ok nmX2 rfl ⟨by decide, by decide⟩ (by decide +kernel) dX2_clear_22 (fun μ13 e15 n14 => ?_)
  have h := h μ13 e15 n14
  refine x_aload_n 0 rfl dX2_clear_25 ?_
  refine x_iconst dX2_clear_26 ?_
  refine x_putI (j := 5) ho.1 (by have := ho.2.1; omega) rfl rfl (by decide) inT2 fl_X2_61 tyX2 tyX2_ok nmX2 rfl ⟨by decide, by decide⟩ (by decide +kernel) dX2_clear_27 (fun μ16 e18 n17 => ?_)
  have h := h μ16 e18 n17
  refine x_aload_n 0 rfl dX2_clear_30 ?_
  refine x_iconst dX2_clear_31 ?_
  refine x_putI (j := 6) ho.1 (by have := ho.2.1; omega) rfl rfl (by decide) inT2 fl_X2_64 tyX2 tyX2_ok nmX2 rfl ⟨by decide, by decide⟩ (by decide +kernel) dX2_clear_32 (fun μ19 e21 n20 => ?_)
  have h := h μ19 e21 n20
  exact x_vret h rfl dX2_clear_35
set_option maxRecDepth 100000 in
set_option maxHeartbeats 4000000 in
theorem xX2_copyFrom (x : xX) (o : Nat) (p1 : Nat) (μ : xM) (Q : xM → Prop) (ho : isHouse o) (hp1 : isHouse p1) (h : tX2_copyFrom o p1 μ Q) : xMet x 5 yX2_copyFrom cX2_copyFrom 3 none [.ref (x.2.2.1 + o), .ref (x.2.2.1 + p1)] μ (xQv x Q) := by
  refine xMet_of (by decide +kernel) (Nat.le_of_ble_eq_true rfl) ?_
  show xW x (xRm 5, RX2, cX2_copyFrom, 3, none, fun _ _ => True) (xQv x Q) 0 [(0, .ref (x.2.2.1 + o)), (1, .ref (x.2.2.1 + p1))] [] μ
  refine x_ran (fun n0 => ?_)
  have h := h n0 
  refine x_aload_n 0 rfl dX2_copyFrom_0 ?_
  refine x_aload_n 1 rfl dX2_copyFrom_1 ?_
  refine x_getI (j := 0) hp1.1 (by have := hp1.2.1; omega) rfl rfl (by decide) inT2 fl_X2_45 dX2_copyFrom_2 (fun r1 => ?_)
  refine x_putI (j := 0) ho.1 (by have := ho.2.1; omega) rfl rfl (by decide) inT2 fl_X2_45 tyX2 tyX2_ok nmX2 rfl r1 (by decide +kernel) dX2_copyFrom_5 (fun μ2 e4 n3 => ?_)
  have h := h μ2 e4 n3
  refine x_aload_n 0 rfl dX2_copyFrom_8 ?_
  refine x_aload_n 1 rfl dX2_copyFrom_9 ?_
  refine x_getI (j := 1) hp1.1 (by have := hp1.2.1; omega) rfl rfl (by decide) inT2 fl_X2_49 dX2_copyFrom_10 (fun r5 => ?_)
  refine x_putI (j := 1) ho.1 (by have := ho.2.1; omega) rfl rfl (by decide) inT2 fl_X2_49 tyX2 tyX2_ok nmX2 rfl r5 (by decide +kernel) dX2_copyFrom_13 (fun μ6 e8 n7 => ?_)
  have h := h μ6 e8 n7
  refine x_aload_n 0 rfl dX2_copyFrom_16 ?_
  refine x_aload_n 1 rfl dX2_copyFrom_17 ?_
  refine x_getI (j := 2) hp1.1 (by have := hp1.2.1; omega) rfl rfl (by decide) inT2 fl_X2_52 dX2_copyFrom_18 (fun r9 => ?_)
  refine x_putI (j := 2) ho.1 (by have := ho.2.1; omega) rfl rfl (by decide) inT2 fl_X2_52 tyX2 tyX2_ok nmX2 rfl r9 (by decide +kernel) dX2_copyFrom_21 (fun μ10 e12 n11 => ?_)
  have h := h μ10 e12 n11
  refine x_aload_n 0 rfl dX2_copyFrom_24 ?_
  refine x_aload_n 1 rfl dX2_copyFrom_25 ?_
  refine x_getI (j := 3) hp1.1 (by have := hp1.2.1; omega) rfl rfl (by decide) inT2 fl_X2_55 dX2_copyFrom_26 (fun r13 => ?_)
  refine x_putI (j := 3) ho.1 (by have := ho.2.1; omega) rfl rfl (by decide) inT2 fl_X2_55 tyX2 tyX2_ok nmX2 rfl r13 (by decide +kernel) dX2_copyFrom_29 (fun μ14 e16 n15 => ?_)
  have h := h μ14 e16 n15
  refine x_aload_n 0 rfl dX2_copyFrom_32 ?_
  refine x_aload_n 1 rfl dX2_copyFrom_33 ?_
  refine x_getI (j := 4) hp1.1 (by have := hp1.2.1; omega) rfl rfl (by decide) inT2 fl_X2_58 dX2_copyFrom_34 (fun r17 => ?_)
  refine x_putI (j := 4) ho.1 (by have := ho.2.1; omega) rfl rfl (by decide) inT2 fl_X2_58 tyX2 tyX2_ok nmX2 rfl r17 (by decide +kernel) dX2_copyFrom_37 (fun μ18 e20 n19 => ?_)
  have h := h μ18 e20 n19
  refine x_aload_n 0 rfl dX2_copyFrom_40 ?_
  refine x_aload_n 1 rfl dX2_copyFrom_41 ?_
  refine x_getI (j := 5) hp1.1 (by have := hp1.2.1; omega) rfl rfl (by decide) inT2 fl_X2_61 dX2_copyFrom_42 (fun r21 => ?_)
  refine x_putI (j := 5) ho.1 (by have := ho.2.1; omega) rfl rfl (by decide) inT2 fl_X2_61 tyX2 tyX2_ok nmX2 rfl r21 (by decide +kernel) dX2_copyFrom_45 (fun μ22 e24 n23 => ?_)
  have h := h μ22 e24 n23
  refine x_aload_n 0 rfl dX2_copyFrom_48 ?_
  refine x_aload_n 1 rfl dX2_copyFrom_49 ?_
  refine x_getI (j := 6) hp1.1 (by have := hp1.2.1; omega) rfl rfl (by decide) inT2 fl_X2_64 dX2_copyFrom_50 (fun r25 => ?_)
  refine x_putI (j := 6) ho.1 (by have := ho.2.1; omega) rfl rfl (by decide) inT2 fl_X2_64 tyX2 tyX2_ok nmX2 rfl r25 (by decide +kernel) dX2_copyFrom_53 (fun μ26 e28 n27 => ?_)
  have h := h μ26 e28 n27
  refine x_iconst dX2_copyFrom_56 ?_
  refine x_istore_n [(2, iV 0), (0, .ref (x.2.2.1 + o)), (1, .ref (x.2.2.1 + p1))] dX2_copyFrom_57 (show 2 < 3 by decide) rfl ?_
  refine x_sub [1, 2, 0] rfl ?_
  refine x_loop1 (fun l2_29 => [(0, .ref (x.2.2.1 + o)), (1, .ref (x.2.2.1 + p1)), (2, iV l2_29)]) h (fun J58 l2_29 μ30 hJ58 h n31 => ?_)
  refine x_iload_n 2 rfl dX2_copyFrom_58 ?_
  refine x_bipush dX2_copyFrom_59 (by decide) ?_
  obtain ⟨c32, h⟩ := h
  refine x_icmpge (tgt := 125) c32 ⟨by decide, by decide⟩ dX2_copyFrom_61 (by decide) (fun k33 => ?_) (fun k33 => ?_)
  · have h := h.1 k33
    refine x_aload_n 1 rfl dX2_copyFrom_125 ?_
    refine x_getR (j := 11) (r := p1 + 30) hp1.1 (by have := hp1.2.1; omega) rfl rfl (by decide) inT2 fl_X2_27 dX2_copyFrom_126 ?_
    refine x_iconst dX2_copyFrom_129 ?_
    refine x_aload_n 0 rfl dX2_copyFrom_130 ?_
    refine x_getR (j := 11) (r := o + 30) ho.1 (by have := ho.2.1; omega) rfl rfl (by decide) inT2 fl_X2_27 dX2_copyFrom_131 ?_
    refine x_iconst dX2_copyFrom_134 ?_
    refine x_bipush dX2_copyFrom_135 (by decide) ?_
    refine x_acopy (n := 8) hp1.2.2.2.2.2.2.2.1 (by have := hp1.2.1; omega) ho.2.2.2.2.2.2.2.1 (by have := ho.2.1; omega) (by decide) (by decide) ml_X2_67 (xRoom1 (by decide)) (Nat.le_of_ble_eq_true rfl) dX2_copyFrom_137 (fun μ34 e36 n35 => ?_)
    have h := h μ34 e36 n35
    refine x_aload_n 1 rfl dX2_copyFrom_140 ?_
    refine x_getR (j := 12) (r := p1 + 31) hp1.1 (by have := hp1.2.1; omega) rfl rfl (by decide) inT2 fl_X2_30 dX2_copyFrom_141 ?_
    refine x_iconst dX2_copyFrom_144 ?_
    refine x_aload_n 0 rfl dX2_copyFrom_145 ?_
    refine x_getR (j := 12) (r := o + 31) ho.1 (by have := ho.2.1; omega) rfl rfl (by decide) inT2 fl_X2_30 dX2_copyFrom_146 ?_
    refine x_iconst dX2_copyFrom_149 ?_
    refine x_bipush dX2_copyFrom_150 (by decide) ?_
    refine x_acopy (n := 6) hp1.2.2.2.2.2.2.2.2.1 (by have := hp1.2.1; omega) ho.2.2.2.2.2.2.2.2.1 (by have := ho.2.1; omega) (by decide) (by decide) ml_X2_67 (xRoom1 (by decide)) (Nat.le_of_ble_eq_true rfl) dX2_copyFrom_152 (fun μ37 e39 n38 => ?_)
    have h := h μ37 e39 n38
    refine x_aload_n 1 rfl dX2_copyFrom_155 ?_
    refine x_getR (j := 13) (r := p1 + 32) hp1.1 (by have := hp1.2.1; omega) rfl rfl (by decide) inT2 fl_X2_33 dX2_copyFrom_156 ?_
    refine x_iconst dX2_copyFrom_159 ?_
    refine x_aload_n 0 rfl dX2_copyFrom_160 ?_
    refine x_getR (j := 13) (r := o + 32) ho.1 (by have := ho.2.1; omega) rfl rfl (by decide) inT2 fl_X2_33 dX2_copyFrom_161 ?_
    refine x_iconst dX2_copyFrom_164 ?_
    refine x_bipush dX2_copyFrom_165 (by decide) ?_
    refine x_acopy (n := 6) hp1.2.2.2.2.2.2.2.2.2.1 (by have := hp1.2.1; omega) ho.2.2.2.2.2.2.2.2.2.1 (by have := ho.2.1; omega) (by decide) (by decide) ml_X2_67 (xRoom1 (by decide)) (Nat.le_of_ble_eq_true rfl) dX2_copyFrom_167 (fun μ40 e42 n41 => ?_)
    have h := h μ40 e42 n41
    refine x_aload_n 1 rfl dX2_copyFrom_170 ?_
    refine x_getR (j := 14) (r := p1 + 33) hp1.1 (by have := hp1.2.1; omega) rfl rfl (by decide) inT2 fl_X2_36 dX2_copyFrom_171 ?_
    refine x_iconst dX2_copyFrom_174 ?_
    refine x_aload_n 0 rfl dX2_copyFrom_175 ?_
    refine x_getR (j := 14) (r := o + 33) ho.1 (by have := ho.2.1; omega) rfl rfl (by decide) inT2 fl_X2_36 dX2_copyFrom_176 ?_
    refine x_iconst dX2_copyFrom_179 ?_
    refine x_bipush dX2_copyFrom_180 (by decide) ?_
    refine x_acopy (n := 6) hp1.2.2.2.2.2.2.2.2.2.2 (by have := hp1.2.1; omega) ho.2.2.2.2.2.2.2.2.2.2 (by have := ho.2.1; omega) (by decide) (by decide) ml_X2_67 (xRoom1 (by decide)) (Nat.le_of_ble_eq_true rfl) dX2_copyFrom_182 (fun μ43 e45 n44 => ?_)
    have h := h μ43 e45 n44
    exact x_vret h rfl dX2_copyFrom_185
  · have h := h.2 k33
    refine x_aload_n 0 rfl dX2_copyFrom_64 ?_
    refine x_getR (j := 7) (r := o + 1) ho.1 (by have := ho.2.1; omega) rfl rfl (by decide) inT2 fl_X2_9 dX2_copyFrom_65 ?_
    refine x_iload_n 2 rfl dX2_copyFrom_68 ?_
    refine x_aload_n 1 rfl dX2_copyFrom_69 ?_
    refine x_getR (j := 7) (r := p1 + 1) hp1.1 (by have := hp1.2.1; omega) rfl rfl (by decide) inT2 fl_X2_9 dX2_copyFrom_70 ?_
    refine x_iload_n 2 rfl dX2_copyFrom_73 ?_
    obtain ⟨c46, h⟩ := h
    refine x_iald hp1.2.2.1 c46.1 c46.2 (xIb (n := 24) c46 (by decide)) (by have := hp1.2.1; omega) dX2_copyFrom_74 (fun r47 => ?_)
    refine x_iast ho.2.2.1 c46.1 c46.2 (xIb (n := 24) c46 (by decide)) r47 (by have := ho.2.1; omega) dX2_copyFrom_75 (fun μ48 e50 n49 => ?_)
    have h := h μ48 e50 n49
    refine x_aload_n 0 rfl dX2_copyFrom_76 ?_
    refine x_getR (j := 8) (r := o + 2) ho.1 (by have := ho.2.1; omega) rfl rfl (by decide) inT2 fl_X2_15 dX2_copyFrom_77 ?_
    refine x_iload_n 2 rfl dX2_copyFrom_80 ?_
    refine x_aload_n 1 rfl dX2_copyFrom_81 ?_
    refine x_getR (j := 8) (r := p1 + 2) hp1.1 (by have := hp1.2.1; omega) rfl rfl (by decide) inT2 fl_X2_15 dX2_copyFrom_82 ?_
    refine x_iload_n 2 rfl dX2_copyFrom_85 ?_
    refine x_iald hp1.2.2.2.1 c46.1 c46.2 (xIb (n := 24) c46 (by decide)) (by have := hp1.2.1; omega) dX2_copyFrom_86 (fun r51 => ?_)
    refine x_iast ho.2.2.2.1 c46.1 c46.2 (xIb (n := 24) c46 (by decide)) r51 (by have := ho.2.1; omega) dX2_copyFrom_87 (fun μ52 e54 n53 => ?_)
    have h := h μ52 e54 n53
    refine x_aload_n 0 rfl dX2_copyFrom_88 ?_
    refine x_getR (j := 10) (r := o + 29) ho.1 (by have := ho.2.1; omega) rfl rfl (by decide) inT2 fl_X2_23 dX2_copyFrom_89 ?_
    refine x_iload_n 2 rfl dX2_copyFrom_92 ?_
    refine x_aload_n 1 rfl dX2_copyFrom_93 ?_
    refine x_getR (j := 10) (r := p1 + 29) hp1.1 (by have := hp1.2.1; omega) rfl rfl (by decide) inT2 fl_X2_23 dX2_copyFrom_94 ?_
    refine x_iload_n 2 rfl dX2_copyFrom_97 ?_
    refine x_zald hp1.2.2.2.2.2.2.1 c46.1 c46.2 (xIb (n := 24) c46 (by decide)) (by have := hp1.2.1; omega) dX2_copyFrom_98 (fun r55 => ?_)
    obtain ⟨c56, h⟩ := h
    refine x_zast ho.2.2.2.2.2.2.1 c46.1 c46.2 (xIb (n := 24) c46 (by decide)) c56 (by have := ho.2.1; omega) dX2_copyFrom_99 (fun μ57 e59 n58 => ?_)
    have h := h μ57 e59 n58
    refine x_aload_n 1 rfl dX2_copyFrom_100 ?_
    refine x_getR (j := 9) (r := p1 + 3) hp1.1 (by have := hp1.2.1; omega) rfl rfl (by decide) inT2 fl_X2_20 dX2_copyFrom_101 ?_
    refine x_iload_n 2 rfl dX2_copyFrom_104 ?_
    obtain ⟨c60, h⟩ := h
    refine x_aaldI hp1.2.2.2.2.1 c60.1 c60.2 (xIb (n := 25) c60 (by decide)) (by have := hp1.2.1; omega) dX2_copyFrom_105 ?_
    refine x_iconst dX2_copyFrom_106 ?_
    refine x_aload_n 0 rfl dX2_copyFrom_107 ?_
    refine x_getR (j := 9) (r := o + 3) ho.1 (by have := ho.2.1; omega) rfl rfl (by decide) inT2 fl_X2_20 dX2_copyFrom_108 ?_
    refine x_iload_n 2 rfl dX2_copyFrom_111 ?_
    refine x_aaldI ho.2.2.2.2.1 c60.1 c60.2 (xIb (n := 25) c60 (by decide)) (by have := ho.2.1; omega) dX2_copyFrom_112 ?_
    refine x_iconst dX2_copyFrom_113 ?_
    refine x_bipush dX2_copyFrom_114 (by decide) ?_
    refine x_acopy (n := 6) (hp1.2.2.2.2.2.1 l2_29.toNat (by omega)) (by have := hp1.2.1; omega) (ho.2.2.2.2.2.1 l2_29.toNat (by omega)) (by have := ho.2.1; omega) (by decide) (by decide) ml_X2_67 (xRoom1 (by decide)) (Nat.le_of_ble_eq_true rfl) dX2_copyFrom_116 (fun μ61 e63 n62 => ?_)
    have h := h μ61 e63 n62
    refine x_iinc 2 rfl [(2, iV (l2_29 + 1)), (0, .ref (x.2.2.1 + o)), (1, .ref (x.2.2.1 + p1))] dX2_copyFrom_119 (show 2 < 3 by decide) rfl ?_
    refine x_goto (tgt := 58) dX2_copyFrom_122 (by decide) ?_
    exact x_sub [1, 2, 0] rfl (hJ58 _ _ h)
set_option maxRecDepth 100000 in
set_option maxHeartbeats 4000000 in
theorem xX2_isOpen (x : xX) (o : Nat) (μ : xM) (Q : Int → xM → Prop) (ho : isHouse o) (h : tX2_isOpen o μ Q) : xMet x 1 yX2_isOpen cX2_isOpen 1 (some .boolean) [.ref (x.2.2.1 + o)] μ (xQz x Q) := by
  refine xMet_of (by decide +kernel) (Nat.le_of_ble_eq_true rfl) ?_
  show xW x (xRm 1, RX2, cX2_isOpen, 1, (some .boolean), fun _ _ => True) (xQz x Q) 0 [(0, .ref (x.2.2.1 + o))] [] μ
  refine x_ran (fun n0 => ?_)
  have h := h n0 
  refine x_aload_n 0 rfl dX2_isOpen_0 ?_
  refine x_getI (j := 0) ho.1 (by have := ho.2.1; omega) rfl rfl (by decide) inT2 fl_X2_45 dX2_isOpen_1 (fun r1 => ?_)
  refine x_ifle (tgt := 11) r1  dX2_isOpen_4 (by decide) (fun k2 => ?_) (fun k2 => ?_)
  · have h := h.1 k2
    refine x_iconst dX2_isOpen_11 ?_
    exact x_zret h (Or.inl rfl) rfl dX2_isOpen_12
  · have h := h.2 k2
    refine x_iconst dX2_isOpen_7 ?_
    refine x_goto (tgt := 12) dX2_isOpen_8 (by decide) ?_
    exact x_zret h (Or.inr rfl) rfl dX2_isOpen_12
set_option maxRecDepth 100000 in
set_option maxHeartbeats 4000000 in
theorem xX2_isBarred (x : xX) (o : Nat) (p1 : Int) (μ : xM) (Q : Int → xM → Prop) (ho : isHouse o) (hp1 : xIn p1) (h : tX2_isBarred o p1 μ Q) : xMet x 2 yX2_isBarred cX2_isBarred 2 (some .boolean) [.ref (x.2.2.1 + o), iV p1] μ (xQz x Q) := by
  refine xMet_of (by decide +kernel) (Nat.le_of_ble_eq_true rfl) ?_
  show xW x (xRm 2, RX2, cX2_isBarred, 2, (some .boolean), fun _ _ => True) (xQz x Q) 0 [(0, .ref (x.2.2.1 + o)), (1, iV p1)] [] μ
  refine x_ran (fun n0 => ?_)
  have h := h n0 hp1
  refine x_aload_n 0 rfl dX2_isBarred_0 ?_
  refine x_iload_n 1 rfl dX2_isBarred_1 ?_
  refine x_callVz (As := [iV p1]) (rest := []) cal_X2_isWord ins_X2_isWord sel_X2_isWord ho.1 (by have := ho.2.1; omega) rfl (xX2_isWord x o p1 _ _ ho hp1 h) rfl ml_X2_73 (xRoom (Nat.le_of_ble_eq_true rfl)) (Nat.le_of_ble_eq_true rfl) dX2_isBarred_2 (fun r3 μ1 i4 n2 h => ?_)
  have h := h i4 n2
  refine x_ifeq (tgt := 21) (xIz i4)  dX2_isBarred_5 (by decide) (fun k5 => ?_) (fun k5 => ?_)
  · have h := h.1 k5
    refine x_iconst dX2_isBarred_21 ?_
    exact x_zret h (Or.inl rfl) rfl dX2_isBarred_22
  · have h := h.2 (xz1 i4 k5)
    refine x_aload_n 0 rfl dX2_isBarred_8 ?_
    refine x_getR (j := 10) (r := o + 29) ho.1 (by have := ho.2.1; omega) rfl rfl (by decide) inT2 fl_X2_23 dX2_isBarred_9 ?_
    refine x_iload_n 1 rfl dX2_isBarred_12 ?_
    obtain ⟨c6, h⟩ := h
    refine x_zald ho.2.2.2.2.2.2.1 c6.1 c6.2 hp1 (by have := ho.2.1; omega) dX2_isBarred_13 (fun r7 => ?_)
    refine x_ifeq (tgt := 21) r7  dX2_isBarred_14 (by decide) (fun k8 => ?_) (fun k8 => ?_)
    · have h := h.1 k8
      refine x_iconst dX2_isBarred_21 ?_
      exact x_zret h (Or.inl rfl) rfl dX2_isBarred_22
    · have h := h.2 k8
      refine x_iconst dX2_isBarred_17 ?_
      refine x_goto (tgt := 22) dX2_isBarred_18 (by decide) ?_
      exact x_zret h (Or.inr rfl) rfl dX2_isBarred_22
set_option maxRecDepth 100000 in
set_option maxHeartbeats 4000000 in
theorem xX2_valueOf (x : xX) (o : Nat) (p1 : Int) (μ : xM) (Q : Int → xM → Prop) (ho : isHouse o) (hp1 : xIn p1) (h : tX2_valueOf o p1 μ Q) : xMet x 2 yX2_valueOf cX2_valueOf 2 (some .int) [.ref (x.2.2.1 + o), iV p1] μ (xQi x Q) := by
  refine xMet_of (by decide +kernel) (Nat.le_of_ble_eq_true rfl) ?_
  show xW x (xRm 2, RX2, cX2_valueOf, 2, (some .int), fun _ _ => True) (xQi x Q) 0 [(0, .ref (x.2.2.1 + o)), (1, iV p1)] [] μ
  refine x_ran (fun n0 => ?_)
  have h := h n0 hp1
  refine x_aload_n 0 rfl dX2_valueOf_0 ?_
  refine x_iload_n 1 rfl dX2_valueOf_1 ?_
  refine x_callVz (As := [iV p1]) (rest := []) cal_X2_isWord ins_X2_isWord sel_X2_isWord ho.1 (by have := ho.2.1; omega) rfl (xX2_isWord x o p1 _ _ ho hp1 h) rfl ml_X2_73 (xRoom (Nat.le_of_ble_eq_true rfl)) (Nat.le_of_ble_eq_true rfl) dX2_valueOf_2 (fun r3 μ1 i4 n2 h => ?_)
  have h := h i4 n2
  refine x_ifeq (tgt := 17) (xIz i4)  dX2_valueOf_5 (by decide) (fun k5 => ?_) (fun k5 => ?_)
  · have h := h.1 k5
    refine x_iconst dX2_valueOf_17 ?_
    exact x_iret h ⟨by decide, by decide⟩ rfl dX2_valueOf_18
  · have h := h.2 (xz1 i4 k5)
    refine x_aload_n 0 rfl dX2_valueOf_8 ?_
    refine x_getR (j := 8) (r := o + 2) ho.1 (by have := ho.2.1; omega) rfl rfl (by decide) inT2 fl_X2_15 dX2_valueOf_9 ?_
    refine x_iload_n 1 rfl dX2_valueOf_12 ?_
    obtain ⟨c6, h⟩ := h
    refine x_iald ho.2.2.2.1 c6.1 c6.2 hp1 (by have := ho.2.1; omega) dX2_valueOf_13 (fun r7 => ?_)
    refine x_goto (tgt := 18) dX2_valueOf_14 (by decide) ?_
    exact x_iret h r7 rfl dX2_valueOf_18
set_option maxRecDepth 100000 in
set_option maxHeartbeats 4000000 in
theorem xX2_glyphsOf (x : xX) (o : Nat) (p1 : Int) (μ : xM) (Q : Nat → xM → Prop) (ho : isHouse o) (hp1 : xIn p1) (h : tX2_glyphsOf o p1 μ Q) : xMet x 2 yX2_glyphsOf cX2_glyphsOf 2 (some (.array .int)) [.ref (x.2.2.1 + o), iV p1] μ (xQr x Q) := by
  refine xMet_of (by decide +kernel) (Nat.le_of_ble_eq_true rfl) ?_
  show xW x (xRm 2, RX2, cX2_glyphsOf, 2, (some (.array .int)), fun _ _ => True) (xQr x Q) 0 [(0, .ref (x.2.2.1 + o)), (1, iV p1)] [] μ
  refine x_ran (fun n0 => ?_)
  have h := h n0 hp1
  refine x_aload_n 0 rfl dX2_glyphsOf_0 ?_
  refine x_getR (j := 9) (r := o + 3) ho.1 (by have := ho.2.1; omega) rfl rfl (by decide) inT2 fl_X2_20 dX2_glyphsOf_1 ?_
  refine x_aload_n 0 rfl dX2_glyphsOf_4 ?_
  refine x_iload_n 1 rfl dX2_glyphsOf_5 ?_
  refine x_callVz (As := [iV p1]) (rest := [.ref (x.2.2.1 + (o + 3))]) cal_X2_isWord ins_X2_isWord sel_X2_isWord ho.1 (by have := ho.2.1; omega) rfl (xX2_isWord x o p1 _ _ ho hp1 h) rfl ml_X2_73 (xRoom (Nat.le_of_ble_eq_true rfl)) (Nat.le_of_ble_eq_true rfl) dX2_glyphsOf_6 (fun r3 μ1 i4 n2 h => ?_)
  have h := h i4 n2
  refine x_ifeq (tgt := 16) (xIz i4)  dX2_glyphsOf_9 (by decide) (fun k5 => ?_) (fun k5 => ?_)
  · have h := h.1 k5
    refine x_bipush dX2_glyphsOf_16 (by decide) ?_
    refine x_aaldI ho.2.2.2.2.1 (by decide) (by decide) ⟨by decide, by decide⟩ (by have := ho.2.1; omega) dX2_glyphsOf_18 ?_
    exact x_aret h rfl (Or.inr ⟨_, rfl⟩) dX2_glyphsOf_19
  · have h := h.2 (xz1 i4 k5)
    refine x_iload_n 1 rfl dX2_glyphsOf_12 ?_
    refine x_goto (tgt := 18) dX2_glyphsOf_13 (by decide) ?_
    obtain ⟨c6, h⟩ := h
    refine x_aaldI ho.2.2.2.2.1 c6.1 c6.2 hp1 (by have := ho.2.1; omega) dX2_glyphsOf_18 ?_
    exact x_aret h rfl (Or.inr ⟨_, rfl⟩) dX2_glyphsOf_19
set_option maxRecDepth 100000 in
set_option maxHeartbeats 4000000 in
theorem xX2_seenOf (x : xX) (o : Nat) (p1 : Int) (μ : xM) (Q : Int → xM → Prop) (ho : isHouse o) (hp1 : xIn p1) (h : tX2_seenOf o p1 μ Q) : xMet x 1 yX2_seenOf cX2_seenOf 2 (some .int) [.ref (x.2.2.1 + o), iV p1] μ (xQi x Q) := by
  refine xMet_of (by decide +kernel) (Nat.le_of_ble_eq_true rfl) ?_
  show xW x (xRm 1, RX2, cX2_seenOf, 2, (some .int), fun _ _ => True) (xQi x Q) 0 [(0, .ref (x.2.2.1 + o)), (1, iV p1)] [] μ
  refine x_ran (fun n0 => ?_)
  have h := h n0 hp1
  refine x_iload_n 1 rfl dX2_seenOf_0 ?_
  refine x_iflt (tgt := 27) hp1  dX2_seenOf_1 (by decide) (fun k1 => ?_) (fun k1 => ?_)
  · have h := h.1 k1
    refine x_iconst dX2_seenOf_27 ?_
    exact x_iret h ⟨by decide, by decide⟩ rfl dX2_seenOf_28
  · have h := h.2 k1
    refine x_iload_n 1 rfl dX2_seenOf_4 ?_
    refine x_aload_n 0 rfl dX2_seenOf_5 ?_
    refine x_getI (j := 6) ho.1 (by have := ho.2.1; omega) rfl rfl (by decide) inT2 fl_X2_64 dX2_seenOf_6 (fun r2 => ?_)
    refine x_icmpge (tgt := 27) hp1 r2 dX2_seenOf_9 (by decide) (fun k3 => ?_) (fun k3 => ?_)
    · have h := h.1 k3
      refine x_iconst dX2_seenOf_27 ?_
      exact x_iret h ⟨by decide, by decide⟩ rfl dX2_seenOf_28
    · have h := h.2 k3
      refine x_iload_n 1 rfl dX2_seenOf_12 ?_
      refine x_bipush dX2_seenOf_13 (by decide) ?_
      refine x_icmpge (tgt := 27) hp1 ⟨by decide, by decide⟩ dX2_seenOf_15 (by decide) (fun k4 => ?_) (fun k4 => ?_)
      · have h := h.1 k4
        refine x_iconst dX2_seenOf_27 ?_
        exact x_iret h ⟨by decide, by decide⟩ rfl dX2_seenOf_28
      · have h := h.2 k4
        refine x_aload_n 0 rfl dX2_seenOf_18 ?_
        refine x_getR (j := 14) (r := o + 33) ho.1 (by have := ho.2.1; omega) rfl rfl (by decide) inT2 fl_X2_36 dX2_seenOf_19 ?_
        refine x_iload_n 1 rfl dX2_seenOf_22 ?_
        obtain ⟨c5, h⟩ := h
        refine x_iald ho.2.2.2.2.2.2.2.2.2.2 c5.1 c5.2 hp1 (by have := ho.2.1; omega) dX2_seenOf_23 (fun r6 => ?_)
        refine x_goto (tgt := 28) dX2_seenOf_24 (by decide) ?_
        exact x_iret h r6 rfl dX2_seenOf_28
set_option maxRecDepth 100000 in
set_option maxHeartbeats 4000000 in
theorem xX2_setBarred (x : xX) (o : Nat) (p1 : Int) (p2 : Int) (μ : xM) (Q : xM → Prop) (ho : isHouse o) (hp1 : xIn p1) (hp2 : p2 = 0 ∨ p2 = 1) (h : tX2_setBarred o p1 p2 μ Q) : xMet x 2 yX2_setBarred cX2_setBarred 3 none [.ref (x.2.2.1 + o), iV p1, iV p2] μ (xQv x Q) := by
  refine xMet_of (by decide +kernel) (Nat.le_of_ble_eq_true rfl) ?_
  show xW x (xRm 2, RX2, cX2_setBarred, 3, none, fun _ _ => True) (xQv x Q) 0 [(0, .ref (x.2.2.1 + o)), (1, iV p1), (2, iV p2)] [] μ
  refine x_ran (fun n0 => ?_)
  have h := h n0 hp1 hp2
  refine x_aload_n 0 rfl dX2_setBarred_0 ?_
  refine x_iload_n 1 rfl dX2_setBarred_1 ?_
  refine x_callVz (As := [iV p1]) (rest := []) cal_X2_isWord ins_X2_isWord sel_X2_isWord ho.1 (by have := ho.2.1; omega) rfl (xX2_isWord x o p1 _ _ ho hp1 h) rfl ml_X2_73 (xRoom (Nat.le_of_ble_eq_true rfl)) (Nat.le_of_ble_eq_true rfl) dX2_setBarred_2 (fun r3 μ1 i4 n2 h => ?_)
  have h := h i4 n2
  refine x_ifeq (tgt := 15) (xIz i4)  dX2_setBarred_5 (by decide) (fun k5 => ?_) (fun k5 => ?_)
  · have h := h.1 k5
    exact x_vret h rfl dX2_setBarred_15
  · have h := h.2 (xz1 i4 k5)
    refine x_aload_n 0 rfl dX2_setBarred_8 ?_
    refine x_getR (j := 10) (r := o + 29) ho.1 (by have := ho.2.1; omega) rfl rfl (by decide) inT2 fl_X2_23 dX2_setBarred_9 ?_
    refine x_iload_n 1 rfl dX2_setBarred_12 ?_
    refine x_iload_n 2 rfl dX2_setBarred_13 ?_
    obtain ⟨c6, h⟩ := h
    refine x_zast ho.2.2.2.2.2.2.1 c6.1 c6.2 hp1 hp2 (by have := ho.2.1; omega) dX2_setBarred_14 (fun μ7 e9 n8 => ?_)
    have h := h μ7 e9 n8
    exact x_vret h rfl dX2_setBarred_15
set_option maxRecDepth 100000 in
set_option maxHeartbeats 4000000 in
theorem xX2_setValue (x : xX) (o : Nat) (p1 : Int) (p2 : Int) (μ : xM) (Q : xM → Prop) (ho : isHouse o) (hp1 : xIn p1) (hp2 : xIn p2) (h : tX2_setValue o p1 p2 μ Q) : xMet x 2 yX2_setValue cX2_setValue 3 none [.ref (x.2.2.1 + o), iV p1, iV p2] μ (xQv x Q) := by
  refine xMet_of (by decide +kernel) (Nat.le_of_ble_eq_true rfl) ?_
  show xW x (xRm 2, RX2, cX2_setValue, 3, none, fun _ _ => True) (xQv x Q) 0 [(0, .ref (x.2.2.1 + o)), (1, iV p1), (2, iV p2)] [] μ
  refine x_ran (fun n0 => ?_)
  have h := h n0 hp1 hp2
  refine x_aload_n 0 rfl dX2_setValue_0 ?_
  refine x_iload_n 1 rfl dX2_setValue_1 ?_
  refine x_callVz (As := [iV p1]) (rest := []) cal_X2_isWord ins_X2_isWord sel_X2_isWord ho.1 (by have := ho.2.1; omega) rfl (xX2_isWord x o p1 _ _ ho hp1 h) rfl ml_X2_73 (xRoom (Nat.le_of_ble_eq_true rfl)) (Nat.le_of_ble_eq_true rfl) dX2_setValue_2 (fun r3 μ1 i4 n2 h => ?_)
  have h := h i4 n2
  refine x_ifeq (tgt := 15) (xIz i4)  dX2_setValue_5 (by decide) (fun k5 => ?_) (fun k5 => ?_)
  · have h := h.1 k5
    exact x_vret h rfl dX2_setValue_15
  · have h := h.2 (xz1 i4 k5)
    refine x_aload_n 0 rfl dX2_setValue_8 ?_
    refine x_getR (j := 8) (r := o + 2) ho.1 (by have := ho.2.1; omega) rfl rfl (by decide) inT2 fl_X2_15 dX2_setValue_9 ?_
    refine x_iload_n 1 rfl dX2_setValue_12 ?_
    refine x_iload_n 2 rfl dX2_setValue_13 ?_
    obtain ⟨c6, h⟩ := h
    refine x_iast ho.2.2.2.1 c6.1 c6.2 hp1 hp2 (by have := ho.2.1; omega) dX2_setValue_14 (fun μ7 e9 n8 => ?_)
    have h := h μ7 e9 n8
    exact x_vret h rfl dX2_setValue_15
set_option maxRecDepth 100000 in
set_option maxHeartbeats 4000000 in
theorem xX2_setFirst (x : xX) (o : Nat) (p1 : Int) (p2 : Int) (μ : xM) (Q : xM → Prop) (ho : isHouse o) (hp1 : xIn p1) (hp2 : xIn p2) (h : tX2_setFirst o p1 p2 μ Q) : xMet x 2 yX2_setFirst cX2_setFirst 3 none [.ref (x.2.2.1 + o), iV p1, iV p2] μ (xQv x Q) := by
  refine xMet_of (by decide +kernel) (Nat.le_of_ble_eq_true rfl) ?_
  show xW x (xRm 2, RX2, cX2_setFirst, 3, none, fun _ _ => True) (xQv x Q) 0 [(0, .ref (x.2.2.1 + o)), (1, iV p1), (2, iV p2)] [] μ
  refine x_ran (fun n0 => ?_)
  have h := h n0 hp1 hp2
  refine x_aload_n 0 rfl dX2_setFirst_0 ?_
  refine x_iload_n 1 rfl dX2_setFirst_1 ?_
  refine x_callVz (As := [iV p1]) (rest := []) cal_X2_isGuest ins_X2_isGuest sel_X2_isGuest ho.1 (by have := ho.2.1; omega) rfl (xX2_isGuest x o p1 _ _ ho hp1 h) rfl ml_X2_77 (xRoom (Nat.le_of_ble_eq_true rfl)) (Nat.le_of_ble_eq_true rfl) dX2_setFirst_2 (fun r3 μ1 i4 n2 h => ?_)
  have h := h i4 n2
  refine x_ifeq (tgt := 15) (xIz i4)  dX2_setFirst_5 (by decide) (fun k5 => ?_) (fun k5 => ?_)
  · have h := h.1 k5
    exact x_vret h rfl dX2_setFirst_15
  · have h := h.2 (xz1 i4 k5)
    refine x_aload_n 0 rfl dX2_setFirst_8 ?_
    refine x_getR (j := 11) (r := o + 30) ho.1 (by have := ho.2.1; omega) rfl rfl (by decide) inT2 fl_X2_27 dX2_setFirst_9 ?_
    refine x_iload_n 1 rfl dX2_setFirst_12 ?_
    refine x_iload_n 2 rfl dX2_setFirst_13 ?_
    obtain ⟨c6, h⟩ := h
    refine x_iast ho.2.2.2.2.2.2.2.1 c6.1 c6.2 hp1 hp2 (by have := ho.2.1; omega) dX2_setFirst_14 (fun μ7 e9 n8 => ?_)
    have h := h μ7 e9 n8
    exact x_vret h rfl dX2_setFirst_15
set_option maxRecDepth 100000 in
set_option maxHeartbeats 4000000 in
theorem xX2_addWord (x : xX) (o : Nat) (p1 : Nat) (p1n : Nat) (p2 : Int) (p3 : Int) (μ : xM) (Q : xM → Prop) (ho : isHouse o) (hp1 : lay p1 = (1, p1n, []) ∧ p1 < 281 ∧ p1n ≤ 200000) (hp2 : xIn p2) (hp3 : xIn p3) (h : tX2_addWord o p1 p1n p2 p3 μ Q) : xMet x 2 yX2_addWord cX2_addWord 5 none [.ref (x.2.2.1 + o), .ref (x.2.2.1 + p1), iV p2, iV p3] μ (xQv x Q) := by
  refine xMet_of (by decide +kernel) (Nat.le_of_ble_eq_true rfl) ?_
  show xW x (xRm 2, RX2, cX2_addWord, 5, none, fun _ _ => True) (xQv x Q) 0 [(0, .ref (x.2.2.1 + o)), (1, .ref (x.2.2.1 + p1)), (2, iV p2), (3, iV p3)] [] μ
  refine x_ran (fun n0 => ?_)
  have h := h n0 hp2 hp3
  refine x_aload_n 0 rfl dX2_addWord_0 ?_
  refine x_getI (j := 3) ho.1 (by have := ho.2.1; omega) rfl rfl (by decide) inT2 fl_X2_55 dX2_addWord_1 (fun r1 => ?_)
  refine x_bipush dX2_addWord_4 (by decide) ?_
  refine x_icmpge (tgt := 108) r1 ⟨by decide, by decide⟩ dX2_addWord_6 (by decide) (fun k2 => ?_) (fun k2 => ?_)
  · have h := h.1 k2
    exact x_vret h rfl dX2_addWord_108
  · have h := h.2 k2
    refine x_iload_n 2 rfl dX2_addWord_9 ?_
    refine x_iflt (tgt := 108) hp2  dX2_addWord_10 (by decide) (fun k3 => ?_) (fun k3 => ?_)
    · have h := h.1 k3
      exact x_vret h rfl dX2_addWord_108
    · have h := h.2 k3
      refine x_iload_n 3 rfl dX2_addWord_13 ?_
      refine x_aload_n 1 rfl dX2_addWord_14 ?_
      refine x_alen hp1.1 hp1.2.1 dX2_addWord_15 ?_
      refine x_icmpgt (tgt := 108) hp3 ⟨by omega, by have := hp1.2.2; omega⟩ dX2_addWord_16 (by decide) (fun k4 => ?_) (fun k4 => ?_)
      · have h := h.1 k4
        exact x_vret h rfl dX2_addWord_108
      · have h := h.2 k4
        refine x_iload_n 3 rfl dX2_addWord_19 ?_
        refine x_iload_n 2 rfl dX2_addWord_20 ?_
        refine x_isub dX2_addWord_21 ?_
        refine x_bipush dX2_addWord_22 (by decide) ?_
        obtain ⟨c5, h⟩ := h
        refine x_icmpgt (tgt := 108) c5 ⟨by decide, by decide⟩ dX2_addWord_24 (by decide) (fun k6 => ?_) (fun k6 => ?_)
        · have h := h.1 k6
          exact x_vret h rfl dX2_addWord_108
        · have h := h.2 k6
          refine x_aload_n 0 rfl dX2_addWord_27 ?_
          refine x_getR (j := 9) (r := o + 3) ho.1 (by have := ho.2.1; omega) rfl rfl (by decide) inT2 fl_X2_20 dX2_addWord_28 ?_
          refine x_aload_n 0 rfl dX2_addWord_31 ?_
          refine x_getI (j := 3) ho.1 (by have := ho.2.1; omega) rfl rfl (by decide) inT2 fl_X2_55 dX2_addWord_32 (fun r7 => ?_)
          obtain ⟨c8, h⟩ := h
          refine x_aaldI ho.2.2.2.2.1 c8.1 c8.2 r7 (by have := ho.2.1; omega) dX2_addWord_35 ?_
          refine x_iconst dX2_addWord_36 ?_
          refine x_callSv (As := [.ref (x.2.2.1 + (o + 4 + (μ o 3).toNat)), iV (-1)]) (rest := []) cal_J7_fill_53178 sta_J7_fill_53178 (xJ7_fill_53178 x (o + 4 + (μ o 3).toNat) 6 (-1) _ _ ⟨(ho.2.2.2.2.2.1 ((μ o 3).toNat) (by omega)), (by have := ho.2.1; omega), (by decide)⟩ ⟨by decide, by decide⟩ h) rfl ml_X2_39 (xRoom (Nat.le_of_ble_eq_true rfl)) (Nat.le_of_ble_eq_true rfl) dX2_addWord_37 (fun μ9 n10 h => ?_)
          have h := h n10
          refine x_iload_n 2 rfl dX2_addWord_40 ?_
          refine x_istore [(4, iV p2), (0, .ref (x.2.2.1 + o)), (1, .ref (x.2.2.1 + p1)), (2, iV p2), (3, iV p3)] dX2_addWord_41 (show 4 < 5 by decide) rfl ?_
          refine x_sub [1, 2, 3, 4, 0] rfl ?_
          refine x_loop1 (fun l4_11 => [(0, .ref (x.2.2.1 + o)), (1, .ref (x.2.2.1 + p1)), (2, iV p2), (3, iV p3), (4, iV l4_11)]) h (fun J43 l4_11 μ12 hJ43 h n13 => ?_)
          refine x_iload 4 rfl dX2_addWord_43 ?_
          refine x_iload_n 3 rfl dX2_addWord_45 ?_
          obtain ⟨c14, h⟩ := h
          refine x_icmpge (tgt := 76) c14 hp3 dX2_addWord_46 (by decide) (fun k15 => ?_) (fun k15 => ?_)
          · have h := h.1 k15
            refine x_aload_n 0 rfl dX2_addWord_76 ?_
            refine x_getR (j := 7) (r := o + 1) ho.1 (by have := ho.2.1; omega) rfl rfl (by decide) inT2 fl_X2_9 dX2_addWord_77 ?_
            refine x_aload_n 0 rfl dX2_addWord_80 ?_
            refine x_getI (j := 3) ho.1 (by have := ho.2.1; omega) rfl rfl (by decide) inT2 fl_X2_55 dX2_addWord_81 (fun r16 => ?_)
            refine x_iload_n 3 rfl dX2_addWord_84 ?_
            refine x_iload_n 2 rfl dX2_addWord_85 ?_
            refine x_isub dX2_addWord_86 ?_
            obtain ⟨c17, h⟩ := h
            obtain ⟨c18, h⟩ := h
            refine x_iast ho.2.2.1 c17.1 c17.2 r16 c18 (by have := ho.2.1; omega) dX2_addWord_87 (fun μ19 e21 n20 => ?_)
            have h := h μ19 e21 n20
            refine x_aload_n 0 rfl dX2_addWord_88 ?_
            refine x_getR (j := 10) (r := o + 29) ho.1 (by have := ho.2.1; omega) rfl rfl (by decide) inT2 fl_X2_23 dX2_addWord_89 ?_
            refine x_aload_n 0 rfl dX2_addWord_92 ?_
            refine x_getI (j := 3) ho.1 (by have := ho.2.1; omega) rfl rfl (by decide) inT2 fl_X2_55 dX2_addWord_93 (fun r22 => ?_)
            refine x_iconst dX2_addWord_96 ?_
            obtain ⟨c23, h⟩ := h
            refine x_zast ho.2.2.2.2.2.2.1 c23.1 c23.2 r22 (Or.inl rfl) (by have := ho.2.1; omega) dX2_addWord_97 (fun μ24 e26 n25 => ?_)
            have h := h μ24 e26 n25
            refine x_aload_n 0 rfl dX2_addWord_98 ?_
            refine x_dup rfl dX2_addWord_99 ?_
            refine x_getI (j := 3) ho.1 (by have := ho.2.1; omega) rfl rfl (by decide) inT2 fl_X2_55 dX2_addWord_100 (fun r27 => ?_)
            refine x_iconst dX2_addWord_103 ?_
            refine x_iadd dX2_addWord_104 ?_
            obtain ⟨c28, h⟩ := h
            refine x_putI (j := 3) ho.1 (by have := ho.2.1; omega) rfl rfl (by decide) inT2 fl_X2_55 tyX2 tyX2_ok nmX2 rfl c28 (by decide +kernel) dX2_addWord_105 (fun μ29 e31 n30 => ?_)
            have h := h μ29 e31 n30
            exact x_vret h rfl dX2_addWord_108
          · have h := h.2 k15
            refine x_aload_n 0 rfl dX2_addWord_49 ?_
            refine x_getR (j := 9) (r := o + 3) ho.1 (by have := ho.2.1; omega) rfl rfl (by decide) inT2 fl_X2_20 dX2_addWord_50 ?_
            refine x_aload_n 0 rfl dX2_addWord_53 ?_
            refine x_getI (j := 3) ho.1 (by have := ho.2.1; omega) rfl rfl (by decide) inT2 fl_X2_55 dX2_addWord_54 (fun r32 => ?_)
            obtain ⟨c33, h⟩ := h
            refine x_aaldI ho.2.2.2.2.1 c33.1 c33.2 r32 (by have := ho.2.1; omega) dX2_addWord_57 ?_
            refine x_iload 4 rfl dX2_addWord_58 ?_
            refine x_iload_n 2 rfl dX2_addWord_60 ?_
            refine x_isub dX2_addWord_61 ?_
            refine x_aload_n 1 rfl dX2_addWord_62 ?_
            refine x_iload 4 rfl dX2_addWord_63 ?_
            obtain ⟨c34, h⟩ := h
            refine x_iald hp1.1 c34.1 c34.2 (xIb (n := p1n) c34 hp1.2.2) hp1.2.1 dX2_addWord_65 (fun r35 => ?_)
            refine x_bipush dX2_addWord_66 (by decide) ?_
            refine x_isub dX2_addWord_68 ?_
            obtain ⟨c36, h⟩ := h
            obtain ⟨c37, h⟩ := h
            refine x_iast (ho.2.2.2.2.2.1 ((μ12 o 3).toNat) (by omega)) c36.1 c36.2 (xIb (n := 6) c36 (by decide)) c37 (by have := ho.2.1; omega) dX2_addWord_69 (fun μ38 e40 n39 => ?_)
            have h := h μ38 e40 n39
            refine x_iinc 4 rfl [(4, iV (l4_11 + 1)), (0, .ref (x.2.2.1 + o)), (1, .ref (x.2.2.1 + p1)), (2, iV p2), (3, iV p3)] dX2_addWord_70 (show 4 < 5 by decide) rfl ?_
            refine x_goto (tgt := 43) dX2_addWord_73 (by decide) ?_
            exact x_sub [1, 2, 3, 4, 0] rfl (hJ43 _ _ h)
set_option maxRecDepth 100000 in
set_option maxHeartbeats 4000000 in
theorem xX2_addGuest (x : xX) (o : Nat) (p1 : Int) (μ : xM) (Q : xM → Prop) (ho : isHouse o) (hp1 : xIn p1) (h : tX2_addGuest o p1 μ Q) : xMet x 1 yX2_addGuest cX2_addGuest 2 none [.ref (x.2.2.1 + o), iV p1] μ (xQv x Q) := by
  refine xMet_of (by decide +kernel) (Nat.le_of_ble_eq_true rfl) ?_
  show xW x (xRm 1, RX2, cX2_addGuest, 2, none, fun _ _ => True) (xQv x Q) 0 [(0, .ref (x.2.2.1 + o)), (1, iV p1)] [] μ
  refine x_ran (fun n0 => ?_)
  have h := h n0 hp1
  refine x_aload_n 0 rfl dX2_addGuest_0 ?_
  refine x_getI (j := 4) ho.1 (by have := ho.2.1; omega) rfl rfl (by decide) inT2 fl_X2_58 dX2_addGuest_1 (fun r1 => ?_)
  refine x_bipush dX2_addGuest_4 (by decide) ?_
  refine x_icmpge (tgt := 29) r1 ⟨by decide, by decide⟩ dX2_addGuest_6 (by decide) (fun k2 => ?_) (fun k2 => ?_)
  · have h := h.1 k2
    exact x_vret h rfl dX2_addGuest_29
  · have h := h.2 k2
    refine x_aload_n 0 rfl dX2_addGuest_9 ?_
    refine x_getR (j := 11) (r := o + 30) ho.1 (by have := ho.2.1; omega) rfl rfl (by decide) inT2 fl_X2_27 dX2_addGuest_10 ?_
    refine x_aload_n 0 rfl dX2_addGuest_13 ?_
    refine x_getI (j := 4) ho.1 (by have := ho.2.1; omega) rfl rfl (by decide) inT2 fl_X2_58 dX2_addGuest_14 (fun r3 => ?_)
    refine x_iload_n 1 rfl dX2_addGuest_17 ?_
    obtain ⟨c4, h⟩ := h
    refine x_iast ho.2.2.2.2.2.2.2.1 c4.1 c4.2 r3 hp1 (by have := ho.2.1; omega) dX2_addGuest_18 (fun μ5 e7 n6 => ?_)
    have h := h μ5 e7 n6
    refine x_aload_n 0 rfl dX2_addGuest_19 ?_
    refine x_dup rfl dX2_addGuest_20 ?_
    refine x_getI (j := 4) ho.1 (by have := ho.2.1; omega) rfl rfl (by decide) inT2 fl_X2_58 dX2_addGuest_21 (fun r8 => ?_)
    refine x_iconst dX2_addGuest_24 ?_
    refine x_iadd dX2_addGuest_25 ?_
    obtain ⟨c9, h⟩ := h
    refine x_putI (j := 4) ho.1 (by have := ho.2.1; omega) rfl rfl (by decide) inT2 fl_X2_58 tyX2 tyX2_ok nmX2 rfl c9 (by decide +kernel) dX2_addGuest_26 (fun μ10 e12 n11 => ?_)
    have h := h μ10 e12 n11
    exact x_vret h rfl dX2_addGuest_29
set_option maxRecDepth 100000 in
set_option maxHeartbeats 4000000 in
theorem xX2_addLikely (x : xX) (o : Nat) (p1 : Int) (p2 : Int) (μ : xM) (Q : xM → Prop) (ho : isHouse o) (hp1 : xIn p1) (hp2 : xIn p2) (h : tX2_addLikely o p1 p2 μ Q) : xMet x 1 yX2_addLikely cX2_addLikely 3 none [.ref (x.2.2.1 + o), iV p1, iV p2] μ (xQv x Q) := by
  refine xMet_of (by decide +kernel) (Nat.le_of_ble_eq_true rfl) ?_
  show xW x (xRm 1, RX2, cX2_addLikely, 3, none, fun _ _ => True) (xQv x Q) 0 [(0, .ref (x.2.2.1 + o)), (1, iV p1), (2, iV p2)] [] μ
  refine x_ran (fun n0 => ?_)
  have h := h n0 hp1 hp2
  refine x_aload_n 0 rfl dX2_addLikely_0 ?_
  refine x_getI (j := 5) ho.1 (by have := ho.2.1; omega) rfl rfl (by decide) inT2 fl_X2_61 dX2_addLikely_1 (fun r1 => ?_)
  refine x_bipush dX2_addLikely_4 (by decide) ?_
  refine x_icmpge (tgt := 39) r1 ⟨by decide, by decide⟩ dX2_addLikely_6 (by decide) (fun k2 => ?_) (fun k2 => ?_)
  · have h := h.1 k2
    exact x_vret h rfl dX2_addLikely_39
  · have h := h.2 k2
    refine x_aload_n 0 rfl dX2_addLikely_9 ?_
    refine x_getR (j := 12) (r := o + 31) ho.1 (by have := ho.2.1; omega) rfl rfl (by decide) inT2 fl_X2_30 dX2_addLikely_10 ?_
    refine x_aload_n 0 rfl dX2_addLikely_13 ?_
    refine x_getI (j := 5) ho.1 (by have := ho.2.1; omega) rfl rfl (by decide) inT2 fl_X2_61 dX2_addLikely_14 (fun r3 => ?_)
    refine x_iload_n 1 rfl dX2_addLikely_17 ?_
    obtain ⟨c4, h⟩ := h
    refine x_iast ho.2.2.2.2.2.2.2.2.1 c4.1 c4.2 r3 hp1 (by have := ho.2.1; omega) dX2_addLikely_18 (fun μ5 e7 n6 => ?_)
    have h := h μ5 e7 n6
    refine x_aload_n 0 rfl dX2_addLikely_19 ?_
    refine x_getR (j := 13) (r := o + 32) ho.1 (by have := ho.2.1; omega) rfl rfl (by decide) inT2 fl_X2_33 dX2_addLikely_20 ?_
    refine x_aload_n 0 rfl dX2_addLikely_23 ?_
    refine x_getI (j := 5) ho.1 (by have := ho.2.1; omega) rfl rfl (by decide) inT2 fl_X2_61 dX2_addLikely_24 (fun r8 => ?_)
    refine x_iload_n 2 rfl dX2_addLikely_27 ?_
    obtain ⟨c9, h⟩ := h
    refine x_iast ho.2.2.2.2.2.2.2.2.2.1 c9.1 c9.2 r8 hp2 (by have := ho.2.1; omega) dX2_addLikely_28 (fun μ10 e12 n11 => ?_)
    have h := h μ10 e12 n11
    refine x_aload_n 0 rfl dX2_addLikely_29 ?_
    refine x_dup rfl dX2_addLikely_30 ?_
    refine x_getI (j := 5) ho.1 (by have := ho.2.1; omega) rfl rfl (by decide) inT2 fl_X2_61 dX2_addLikely_31 (fun r13 => ?_)
    refine x_iconst dX2_addLikely_34 ?_
    refine x_iadd dX2_addLikely_35 ?_
    obtain ⟨c14, h⟩ := h
    refine x_putI (j := 5) ho.1 (by have := ho.2.1; omega) rfl rfl (by decide) inT2 fl_X2_61 tyX2 tyX2_ok nmX2 rfl c14 (by decide +kernel) dX2_addLikely_36 (fun μ15 e17 n16 => ?_)
    have h := h μ15 e17 n16
    exact x_vret h rfl dX2_addLikely_39
set_option maxRecDepth 100000 in
set_option maxHeartbeats 4000000 in
theorem xX2_addSeen (x : xX) (o : Nat) (p1 : Int) (μ : xM) (Q : xM → Prop) (ho : isHouse o) (hp1 : xIn p1) (h : tX2_addSeen o p1 μ Q) : xMet x 1 yX2_addSeen cX2_addSeen 2 none [.ref (x.2.2.1 + o), iV p1] μ (xQv x Q) := by
  refine xMet_of (by decide +kernel) (Nat.le_of_ble_eq_true rfl) ?_
  show xW x (xRm 1, RX2, cX2_addSeen, 2, none, fun _ _ => True) (xQv x Q) 0 [(0, .ref (x.2.2.1 + o)), (1, iV p1)] [] μ
  refine x_ran (fun n0 => ?_)
  have h := h n0 hp1
  refine x_aload_n 0 rfl dX2_addSeen_0 ?_
  refine x_getI (j := 6) ho.1 (by have := ho.2.1; omega) rfl rfl (by decide) inT2 fl_X2_64 dX2_addSeen_1 (fun r1 => ?_)
  refine x_bipush dX2_addSeen_4 (by decide) ?_
  refine x_icmpge (tgt := 29) r1 ⟨by decide, by decide⟩ dX2_addSeen_6 (by decide) (fun k2 => ?_) (fun k2 => ?_)
  · have h := h.1 k2
    exact x_vret h rfl dX2_addSeen_29
  · have h := h.2 k2
    refine x_aload_n 0 rfl dX2_addSeen_9 ?_
    refine x_getR (j := 14) (r := o + 33) ho.1 (by have := ho.2.1; omega) rfl rfl (by decide) inT2 fl_X2_36 dX2_addSeen_10 ?_
    refine x_aload_n 0 rfl dX2_addSeen_13 ?_
    refine x_getI (j := 6) ho.1 (by have := ho.2.1; omega) rfl rfl (by decide) inT2 fl_X2_64 dX2_addSeen_14 (fun r3 => ?_)
    refine x_iload_n 1 rfl dX2_addSeen_17 ?_
    obtain ⟨c4, h⟩ := h
    refine x_iast ho.2.2.2.2.2.2.2.2.2.2 c4.1 c4.2 r3 hp1 (by have := ho.2.1; omega) dX2_addSeen_18 (fun μ5 e7 n6 => ?_)
    have h := h μ5 e7 n6
    refine x_aload_n 0 rfl dX2_addSeen_19 ?_
    refine x_dup rfl dX2_addSeen_20 ?_
    refine x_getI (j := 6) ho.1 (by have := ho.2.1; omega) rfl rfl (by decide) inT2 fl_X2_64 dX2_addSeen_21 (fun r8 => ?_)
    refine x_iconst dX2_addSeen_24 ?_
    refine x_iadd dX2_addSeen_25 ?_
    obtain ⟨c9, h⟩ := h
    refine x_putI (j := 6) ho.1 (by have := ho.2.1; omega) rfl rfl (by decide) inT2 fl_X2_64 tyX2 tyX2_ok nmX2 rfl c9 (by decide +kernel) dX2_addSeen_26 (fun μ10 e12 n11 => ?_)
    have h := h μ10 e12 n11
    exact x_vret h rfl dX2_addSeen_29
set_option maxRecDepth 100000 in
set_option maxHeartbeats 4000000 in
theorem xX3_farOf (x : xX) (p1 : Int) (μ : xM) (Q : Int → xM → Prop) (hp1 : xIn p1) (h : tX3_farOf p1 μ Q) : xMet x 1 yX3_farOf cX3_farOf 2 (some .int) [.ref (x.2.2.1 + 208), iV p1] μ (xQi x Q) := by
  refine xMet_of (by decide +kernel) (Nat.le_of_ble_eq_true rfl) ?_
  show xW x (xRm 1, RX3, cX3_farOf, 2, (some .int), fun _ _ => True) (xQi x Q) 0 [(0, .ref (x.2.2.1 + 208)), (1, iV p1)] [] μ
  refine x_ran (fun n0 => ?_)
  have h := h n0 hp1
  refine x_iload_n 1 rfl dX3_farOf_0 ?_
  refine x_iflt (tgt := 19) hp1  dX3_farOf_1 (by decide) (fun k1 => ?_) (fun k1 => ?_)
  · have h := h.1 k1
    refine x_iconst dX3_farOf_19 ?_
    exact x_iret h ⟨by decide, by decide⟩ rfl dX3_farOf_20
  · have h := h.2 k1
    refine x_iload_n 1 rfl dX3_farOf_4 ?_
    refine x_bipush dX3_farOf_5 (by decide) ?_
    refine x_icmpge (tgt := 19) hp1 ⟨by decide, by decide⟩ dX3_farOf_7 (by decide) (fun k2 => ?_) (fun k2 => ?_)
    · have h := h.1 k2
      refine x_iconst dX3_farOf_19 ?_
      exact x_iret h ⟨by decide, by decide⟩ rfl dX3_farOf_20
    · have h := h.2 k2
      refine x_aload_n 0 rfl dX3_farOf_10 ?_
      refine x_getR (j := 2) (r := 209) ly208 (by decide) rfl rfl (by decide) inT3 fl_X3_9 dX3_farOf_11 ?_
      refine x_iload_n 1 rfl dX3_farOf_14 ?_
      obtain ⟨c3, h⟩ := h
      refine x_iald ly209 c3.1 c3.2 hp1 (by decide) dX3_farOf_15 (fun r4 => ?_)
      refine x_goto (tgt := 20) dX3_farOf_16 (by decide) ?_
      exact x_iret h r4 rfl dX3_farOf_20
set_option maxRecDepth 100000 in
set_option maxHeartbeats 4000000 in
theorem xX3_isRung (x : xX) (p1 : Int) (p2 : Int) (μ : xM) (Q : Int → xM → Prop) (hp1 : xIn p1) (hp2 : xIn p2) (h : tX3_isRung p1 p2 μ Q) : xMet x 3 yX3_isRung cX3_isRung 3 (some .boolean) [.ref (x.2.2.1 + 208), iV p1, iV p2] μ (xQz x Q) := by
  refine xMet_of (by decide +kernel) (Nat.le_of_ble_eq_true rfl) ?_
  show xW x (xRm 3, RX3, cX3_isRung, 3, (some .boolean), fun _ _ => True) (xQz x Q) 0 [(0, .ref (x.2.2.1 + 208)), (1, iV p1), (2, iV p2)] [] μ
  refine x_ran (fun n0 => ?_)
  have h := h n0 hp1 hp2
  refine x_aload_n 0 rfl dX3_isRung_0 ?_
  refine x_getR (j := 0) (r := 39) ly208 (by decide) rfl rfl (by decide) inT3 fl_X3_18 dX3_isRung_1 ?_
  refine x_iload_n 2 rfl dX3_isRung_4 ?_
  refine x_callVz (As := [iV p2]) (rest := []) cal_X2_isWord ins_X2_isWord sel_X2_isWord ly39 (by decide) rfl (xX2_isWord x 39 p2 _ _ isHouse_39 hp2 h) rfl ml_X3_50 (xRoom (Nat.le_of_ble_eq_true rfl)) (Nat.le_of_ble_eq_true rfl) dX3_isRung_5 (fun r3 μ1 i4 n2 h => ?_)
  have h := h i4 n2
  refine x_ifeq (tgt := 39) (xIz i4)  dX3_isRung_8 (by decide) (fun k5 => ?_) (fun k5 => ?_)
  · have h := h.1 k5
    refine x_iconst dX3_isRung_39 ?_
    exact x_zret h (Or.inl rfl) rfl dX3_isRung_40
  · have h := h.2 (xz1 i4 k5)
    refine x_aload_n 0 rfl dX3_isRung_11 ?_
    refine x_getR (j := 1) (r := 73) ly208 (by decide) rfl rfl (by decide) inT3 fl_X3_22 dX3_isRung_12 ?_
    refine x_iload_n 1 rfl dX3_isRung_15 ?_
    refine x_iload_n 2 rfl dX3_isRung_16 ?_
    refine x_callVi (As := [iV p1, iV p2]) (rest := []) cal_X1_letterOf ins_X1_letterOf sel_X1_letterOf ly73 (by decide) rfl (xX1_letterOf x p1 p2 _ _ hp1 hp2 h) rfl ml_X3_53 (xRoom (Nat.le_of_ble_eq_true rfl)) (Nat.le_of_ble_eq_true rfl) dX3_isRung_17 (fun r8 μ6 i9 n7 h => ?_)
    have h := h i9 n7
    refine x_ifge (tgt := 35) i9  dX3_isRung_20 (by decide) (fun k10 => ?_) (fun k10 => ?_)
    · have h := h.1 k10
      refine x_iconst dX3_isRung_35 ?_
      refine x_goto (tgt := 40) dX3_isRung_36 (by decide) ?_
      exact x_zret h (Or.inr rfl) rfl dX3_isRung_40
    · have h := h.2 k10
      refine x_aload_n 0 rfl dX3_isRung_23 ?_
      refine x_getR (j := 1) (r := 73) ly208 (by decide) rfl rfl (by decide) inT3 fl_X3_22 dX3_isRung_24 ?_
      refine x_iload_n 2 rfl dX3_isRung_27 ?_
      refine x_iload_n 1 rfl dX3_isRung_28 ?_
      refine x_callVi (As := [iV p2, iV p1]) (rest := []) cal_X1_letterOf ins_X1_letterOf sel_X1_letterOf ly73 (by decide) rfl (xX1_letterOf x p2 p1 _ _ hp2 hp1 h) rfl ml_X3_53 (xRoom (Nat.le_of_ble_eq_true rfl)) (Nat.le_of_ble_eq_true rfl) dX3_isRung_29 (fun r13 μ11 i14 n12 h => ?_)
      have h := h i14 n12
      refine x_iflt (tgt := 39) i14  dX3_isRung_32 (by decide) (fun k15 => ?_) (fun k15 => ?_)
      · have h := h.1 k15
        refine x_iconst dX3_isRung_39 ?_
        exact x_zret h (Or.inl rfl) rfl dX3_isRung_40
      · have h := h.2 k15
        refine x_iconst dX3_isRung_35 ?_
        refine x_goto (tgt := 40) dX3_isRung_36 (by decide) ?_
        exact x_zret h (Or.inr rfl) rfl dX3_isRung_40
set_option maxRecDepth 100000 in
set_option maxHeartbeats 4000000 in
theorem xX3_measure (x : xX) (p1 : Int) (μ : xM) (Q : xM → Prop) (hp1 : xIn p1) (h : tX3_measure p1 μ Q) : xMet x 4 yX3_measure cX3_measure 6 none [.ref (x.2.2.1 + 208), iV p1] μ (xQv x Q) := by
  refine xMet_of (by decide +kernel) (Nat.le_of_ble_eq_true rfl) ?_
  show xW x (xRm 4, RX3, cX3_measure, 6, none, fun _ _ => True) (xQv x Q) 0 [(0, .ref (x.2.2.1 + 208)), (1, iV p1)] [] μ
  refine x_ran (fun n0 => ?_)
  have h := h n0 hp1
  refine x_aload_n 0 rfl dX3_measure_0 ?_
  refine x_getR (j := 2) (r := 209) ly208 (by decide) rfl rfl (by decide) inT3 fl_X3_9 dX3_measure_1 ?_
  refine x_iconst dX3_measure_4 ?_
  refine x_callSv (As := [.ref (x.2.2.1 + 209), iV (-1)]) (rest := []) cal_J7_fill_53178 sta_J7_fill_53178 (xJ7_fill_53178 x 209 24 (-1) _ _ ⟨ly209, (by decide), (by decide)⟩ ⟨by decide, by decide⟩ h) rfl ml_X3_26 (xRoom (Nat.le_of_ble_eq_true rfl)) (Nat.le_of_ble_eq_true rfl) dX3_measure_5 (fun μ1 n2 h => ?_)
  have h := h n2
  refine x_aload_n 0 rfl dX3_measure_8 ?_
  refine x_getR (j := 0) (r := 39) ly208 (by decide) rfl rfl (by decide) inT3 fl_X3_18 dX3_measure_9 ?_
  refine x_iload_n 1 rfl dX3_measure_12 ?_
  refine x_callVz (As := [iV p1]) (rest := []) cal_X2_isGood ins_X2_isGood sel_X2_isGood ly39 (by decide) rfl (xX2_isGood x 39 p1 _ _ isHouse_39 hp1 h) rfl ml_X3_32 (xRoom (Nat.le_of_ble_eq_true rfl)) (Nat.le_of_ble_eq_true rfl) dX3_measure_13 (fun r5 μ3 i6 n4 h => ?_)
  have h := h i6 n4
  refine x_ifne (tgt := 20) (xIz i6)  dX3_measure_16 (by decide) (fun k7 => ?_) (fun k7 => ?_)
  · have h := h.1 (xz1 i6 k7)
    refine x_aload_n 0 rfl dX3_measure_20 ?_
    refine x_getR (j := 2) (r := 209) ly208 (by decide) rfl rfl (by decide) inT3 fl_X3_9 dX3_measure_21 ?_
    refine x_iload_n 1 rfl dX3_measure_24 ?_
    refine x_iconst dX3_measure_25 ?_
    obtain ⟨c8, h⟩ := h
    refine x_iast ly209 c8.1 c8.2 hp1 ⟨by decide, by decide⟩ (by decide) dX3_measure_26 (fun μ9 e11 n10 => ?_)
    have h := h μ9 e11 n10
    refine x_aload_n 0 rfl dX3_measure_27 ?_
    refine x_getR (j := 3) (r := 210) ly208 (by decide) rfl rfl (by decide) inT3 fl_X3_15 dX3_measure_28 ?_
    refine x_iconst dX3_measure_31 ?_
    refine x_iload_n 1 rfl dX3_measure_32 ?_
    refine x_iast ly210 (by decide) (by decide) ⟨by decide, by decide⟩ hp1 (by decide) dX3_measure_33 (fun μ12 e14 n13 => ?_)
    have h := h μ12 e14 n13
    refine x_iconst dX3_measure_34 ?_
    refine x_istore_n [(2, iV 1), (0, .ref (x.2.2.1 + 208)), (1, iV p1)] dX3_measure_35 (show 2 < 6 by decide) rfl ?_
    refine x_iconst dX3_measure_36 ?_
    refine x_istore_n [(3, iV 0), (2, iV 1), (0, .ref (x.2.2.1 + 208)), (1, iV p1)] dX3_measure_37 (show 3 < 6 by decide) rfl ?_
    refine x_sub [2, 1, 0] rfl ?_
    refine x_loop2 (fun l2_15 l3_16 => [(0, .ref (x.2.2.1 + 208)), (2, iV l2_15), (3, iV l3_16)]) h (fun J38 l2_15 l3_16 μ17 hJ38 h n18 => ?_)
    refine x_iload_n 2 rfl dX3_measure_38 ?_
    refine x_iload_n 1 rfl dX3_measure_39 ?_
    obtain ⟨c19, h⟩ := h
    obtain ⟨c20, h⟩ := h
    refine x_icmpge (tgt := 136) c19 c20 dX3_measure_40 (by decide) (fun k21 => ?_) (fun k21 => ?_)
    · have h := h.1 k21
      exact x_vret h rfl dX3_measure_136
    · have h := h.2 k21
      refine x_iload_n 2 rfl dX3_measure_43 ?_
      refine x_bipush dX3_measure_44 (by decide) ?_
      refine x_icmpge (tgt := 136) c19 ⟨by decide, by decide⟩ dX3_measure_46 (by decide) (fun k22 => ?_) (fun k22 => ?_)
      · have h := h.1 k22
        exact x_vret h rfl dX3_measure_136
      · have h := h.2 k22
        refine x_aload_n 0 rfl dX3_measure_49 ?_
        refine x_getR (j := 3) (r := 210) ly208 (by decide) rfl rfl (by decide) inT3 fl_X3_15 dX3_measure_50 ?_
        refine x_iload_n 2 rfl dX3_measure_53 ?_
        obtain ⟨c23, h⟩ := h
        refine x_iald ly210 c23.1 c23.2 (xIb (n := 24) c23 (by decide)) (by decide) dX3_measure_54 (fun r24 => ?_)
        refine x_istore [(4, iV (μ17 210 l3_16.toNat)), (0, .ref (x.2.2.1 + 208)), (2, iV l2_15), (3, iV l3_16)] dX3_measure_55 (show 4 < 6 by decide) rfl ?_
        refine x_iconst dX3_measure_57 ?_
        refine x_istore [(5, iV 0), (4, iV (μ17 210 l3_16.toNat)), (0, .ref (x.2.2.1 + 208)), (2, iV l2_15), (3, iV l3_16)] dX3_measure_58 (show 5 < 6 by decide) rfl ?_
        refine x_sub [2, 3, 4, 1, 0] rfl ?_
        refine x_loop2 (fun l2_25 l5_26 => [(0, .ref (x.2.2.1 + 208)), (2, iV l2_25), (3, iV l3_16), (4, iV (μ17 210 l3_16.toNat)), (5, iV l5_26)]) h (fun J60 l2_25 l5_26 μ27 hJ60 h n28 => ?_)
        refine x_iload 4 rfl dX3_measure_60 ?_
        refine x_aload_n 0 rfl dX3_measure_62 ?_
        refine x_getR (j := 0) (r := 39) ly208 (by decide) rfl rfl (by decide) inT3 fl_X3_18 dX3_measure_63 ?_
        refine x_getI (j := 3) ly39 (by decide) rfl rfl (by decide) inT2 fl_X3_38 dX3_measure_66 (fun r29 => ?_)
        obtain ⟨c30, h⟩ := h
        refine x_icmpge (tgt := 130) c30 r29 dX3_measure_69 (by decide) (fun k31 => ?_) (fun k31 => ?_)
        · have h := h.1 k31
          refine x_iinc 2 rfl [(3, iV (l3_16 + 1)), (0, .ref (x.2.2.1 + 208)), (2, iV l2_25), (4, iV (μ17 210 l3_16.toNat)), (5, iV l5_26)] dX3_measure_130 (show 3 < 6 by decide) rfl ?_
          refine x_goto (tgt := 38) dX3_measure_133 (by decide) ?_
          exact x_sub [1, 2, 0] rfl (hJ38 _ _ _ h)
        · have h := h.2 k31
          refine x_aload_n 0 rfl dX3_measure_72 ?_
          refine x_iload 4 rfl dX3_measure_73 ?_
          refine x_callVi (As := [iV l5_26]) (rest := []) cal_X3_farOf ins_X3_farOf sel_X3_farOf ly208 (by decide) rfl (xX3_farOf x l5_26 _ _ c30 h) rfl ml_X3_42 (xRoom (Nat.le_of_ble_eq_true rfl)) (Nat.le_of_ble_eq_true rfl) dX3_measure_75 (fun r34 μ32 i35 n33 h => ?_)
          have h := h i35 n33
          refine x_ifge (tgt := 124) i35  dX3_measure_78 (by decide) (fun k36 => ?_) (fun k36 => ?_)
          · have h := h.1 k36
            refine x_iinc 4 rfl [(5, iV (l5_26 + 1)), (0, .ref (x.2.2.1 + 208)), (2, iV l2_25), (3, iV l3_16), (4, iV (μ17 210 l3_16.toNat))] dX3_measure_124 (show 5 < 6 by decide) rfl ?_
            refine x_goto (tgt := 60) dX3_measure_127 (by decide) ?_
            exact x_sub [1, 2, 3, 4, 0] rfl (hJ60 _ _ _ h)
          · have h := h.2 k36
            refine x_aload_n 0 rfl dX3_measure_81 ?_
            refine x_iload 3 rfl dX3_measure_82 ?_
            refine x_iload 4 rfl dX3_measure_84 ?_
            refine x_callVz (As := [iV (μ17 210 l3_16.toNat), iV l5_26]) (rest := []) cal_X3_isRung ins_X3_isRung sel_X3_isRung ly208 (by decide) rfl (xX3_isRung x (μ17 210 l3_16.toNat) l5_26 _ _ r24 c30 h) rfl ml_X3_46 (xRoom (Nat.le_of_ble_eq_true rfl)) (Nat.le_of_ble_eq_true rfl) dX3_measure_86 (fun r39 μ37 i40 n38 h => ?_)
            have h := h i40 n38
            refine x_ifeq (tgt := 124) (xIz i40)  dX3_measure_89 (by decide) (fun k41 => ?_) (fun k41 => ?_)
            · have h := h.1 k41
              refine x_iinc 4 rfl [(5, iV (l5_26 + 1)), (0, .ref (x.2.2.1 + 208)), (2, iV l2_25), (3, iV l3_16), (4, iV (μ17 210 l3_16.toNat))] dX3_measure_124 (show 5 < 6 by decide) rfl ?_
              refine x_goto (tgt := 60) dX3_measure_127 (by decide) ?_
              exact x_sub [1, 2, 3, 4, 0] rfl (hJ60 _ _ _ h)
            · have h := h.2 (xz1 i40 k41)
              refine x_iload_n 1 rfl dX3_measure_92 ?_
              refine x_bipush dX3_measure_93 (by decide) ?_
              obtain ⟨c42, h⟩ := h
              refine x_icmpge (tgt := 124) c42 ⟨by decide, by decide⟩ dX3_measure_95 (by decide) (fun k43 => ?_) (fun k43 => ?_)
              · have h := h.1 k43
                refine x_iinc 4 rfl [(5, iV (l5_26 + 1)), (0, .ref (x.2.2.1 + 208)), (2, iV l2_25), (3, iV l3_16), (4, iV (μ17 210 l3_16.toNat))] dX3_measure_124 (show 5 < 6 by decide) rfl ?_
                refine x_goto (tgt := 60) dX3_measure_127 (by decide) ?_
                exact x_sub [1, 2, 3, 4, 0] rfl (hJ60 _ _ _ h)
              · have h := h.2 k43
                refine x_aload_n 0 rfl dX3_measure_98 ?_
                refine x_getR (j := 2) (r := 209) ly208 (by decide) rfl rfl (by decide) inT3 fl_X3_9 dX3_measure_99 ?_
                refine x_iload 4 rfl dX3_measure_102 ?_
                refine x_aload_n 0 rfl dX3_measure_104 ?_
                refine x_iload 3 rfl dX3_measure_105 ?_
                refine x_callVi (As := [iV (μ17 210 l3_16.toNat)]) (rest := [iV l5_26, .ref (x.2.2.1 + 209)]) cal_X3_farOf ins_X3_farOf sel_X3_farOf ly208 (by decide) rfl (xX3_farOf x (μ17 210 l3_16.toNat) _ _ r24 h) rfl ml_X3_42 (xRoom (Nat.le_of_ble_eq_true rfl)) (Nat.le_of_ble_eq_true rfl) dX3_measure_107 (fun r46 μ44 i47 n45 h => ?_)
                have h := h i47 n45
                refine x_iconst dX3_measure_110 ?_
                refine x_iadd dX3_measure_111 ?_
                obtain ⟨c48, h⟩ := h
                obtain ⟨c49, h⟩ := h
                refine x_iast ly209 c48.1 c48.2 (xIb (n := 24) c48 (by decide)) c49 (by decide) dX3_measure_112 (fun μ50 e52 n51 => ?_)
                have h := h μ50 e52 n51
                refine x_aload_n 0 rfl dX3_measure_113 ?_
                refine x_getR (j := 3) (r := 210) ly208 (by decide) rfl rfl (by decide) inT3 fl_X3_15 dX3_measure_114 ?_
                refine x_iload_n 1 rfl dX3_measure_117 ?_
                refine x_iload 4 rfl dX3_measure_118 ?_
                obtain ⟨c53, h⟩ := h
                refine x_iast ly210 c53.1 c53.2 (xIb (n := 24) c53 (by decide)) c30 (by decide) dX3_measure_120 (fun μ54 e56 n55 => ?_)
                have h := h μ54 e56 n55
                refine x_iinc 1 rfl [(2, iV (l2_25 + 1)), (0, .ref (x.2.2.1 + 208)), (3, iV l3_16), (4, iV (μ17 210 l3_16.toNat)), (5, iV l5_26)] dX3_measure_121 (show 2 < 6 by decide) rfl ?_
                refine x_iinc 4 rfl [(5, iV (l5_26 + 1)), (2, iV (l2_25 + 1)), (0, .ref (x.2.2.1 + 208)), (3, iV l3_16), (4, iV (μ17 210 l3_16.toNat))] dX3_measure_124 (show 5 < 6 by decide) rfl ?_
                refine x_goto (tgt := 60) dX3_measure_127 (by decide) ?_
                exact x_sub [2, 1, 3, 4, 0] rfl (hJ60 _ _ _ h)
  · have h := h.2 k7
    exact x_vret h rfl dX3_measure_19
set_option maxRecDepth 100000 in
set_option maxHeartbeats 4000000 in
theorem xX3_nearer (x : xX) (p1 : Int) (μ : xM) (Q : Int → xM → Prop) (hp1 : xIn p1) (h : tX3_nearer p1 μ Q) : xMet x 4 yX3_nearer cX3_nearer 3 (some .int) [.ref (x.2.2.1 + 208), iV p1] μ (xQi x Q) := by
  refine xMet_of (by decide +kernel) (Nat.le_of_ble_eq_true rfl) ?_
  show xW x (xRm 4, RX3, cX3_nearer, 3, (some .int), fun _ _ => True) (xQi x Q) 0 [(0, .ref (x.2.2.1 + 208)), (1, iV p1)] [] μ
  refine x_ran (fun n0 => ?_)
  have h := h n0 hp1
  refine x_iconst dX3_nearer_0 ?_
  refine x_istore_n [(2, iV 0), (0, .ref (x.2.2.1 + 208)), (1, iV p1)] dX3_nearer_1 (show 2 < 3 by decide) rfl ?_
  refine x_sub [1, 2, 0] rfl ?_
  refine x_loop1 (fun l2_1 => [(0, .ref (x.2.2.1 + 208)), (1, iV p1), (2, iV l2_1)]) h (fun J2 l2_1 μ2 hJ2 h n3 => ?_)
  refine x_iload_n 2 rfl dX3_nearer_2 ?_
  refine x_aload_n 0 rfl dX3_nearer_3 ?_
  refine x_getR (j := 0) (r := 39) ly208 (by decide) rfl rfl (by decide) inT3 fl_X3_18 dX3_nearer_4 ?_
  refine x_getI (j := 3) ly39 (by decide) rfl rfl (by decide) inT2 fl_X3_38 dX3_nearer_7 (fun r4 => ?_)
  obtain ⟨c5, h⟩ := h
  refine x_icmpge (tgt := 45) c5 r4 dX3_nearer_10 (by decide) (fun k6 => ?_) (fun k6 => ?_)
  · have h := h.1 k6
    refine x_iload_n 1 rfl dX3_nearer_45 ?_
    exact x_iret h hp1 rfl dX3_nearer_46
  · have h := h.2 k6
    refine x_aload_n 0 rfl dX3_nearer_13 ?_
    refine x_iload_n 1 rfl dX3_nearer_14 ?_
    refine x_iload_n 2 rfl dX3_nearer_15 ?_
    refine x_callVz (As := [iV p1, iV l2_1]) (rest := []) cal_X3_isRung ins_X3_isRung sel_X3_isRung ly208 (by decide) rfl (xX3_isRung x p1 l2_1 _ _ hp1 c5 h) rfl ml_X3_46 (xRoom (Nat.le_of_ble_eq_true rfl)) (Nat.le_of_ble_eq_true rfl) dX3_nearer_16 (fun r9 μ7 i10 n8 h => ?_)
    have h := h i10 n8
    refine x_ifeq (tgt := 39) (xIz i10)  dX3_nearer_19 (by decide) (fun k11 => ?_) (fun k11 => ?_)
    · have h := h.1 k11
      refine x_iinc 2 rfl [(2, iV (l2_1 + 1)), (0, .ref (x.2.2.1 + 208)), (1, iV p1)] dX3_nearer_39 (show 2 < 3 by decide) rfl ?_
      refine x_goto (tgt := 2) dX3_nearer_42 (by decide) ?_
      exact x_sub [1, 2, 0] rfl (hJ2 _ _ h)
    · have h := h.2 (xz1 i10 k11)
      refine x_aload_n 0 rfl dX3_nearer_22 ?_
      refine x_iload_n 2 rfl dX3_nearer_23 ?_
      refine x_callVi (As := [iV l2_1]) (rest := []) cal_X3_farOf ins_X3_farOf sel_X3_farOf ly208 (by decide) rfl (xX3_farOf x l2_1 _ _ c5 h) rfl ml_X3_42 (xRoom (Nat.le_of_ble_eq_true rfl)) (Nat.le_of_ble_eq_true rfl) dX3_nearer_24 (fun r14 μ12 i15 n13 h => ?_)
      have h := h i15 n13
      refine x_aload_n 0 rfl dX3_nearer_27 ?_
      refine x_iload_n 1 rfl dX3_nearer_28 ?_
      refine x_callVi (As := [iV p1]) (rest := [iV r14]) cal_X3_farOf ins_X3_farOf sel_X3_farOf ly208 (by decide) rfl (xX3_farOf x p1 _ _ hp1 h) rfl ml_X3_42 (xRoom (Nat.le_of_ble_eq_true rfl)) (Nat.le_of_ble_eq_true rfl) dX3_nearer_29 (fun r18 μ16 i19 n17 h => ?_)
      have h := h i19 n17
      refine x_iconst dX3_nearer_32 ?_
      refine x_isub dX3_nearer_33 ?_
      obtain ⟨c20, h⟩ := h
      refine x_icmpne (tgt := 39) i15 c20 dX3_nearer_34 (by decide) (fun k21 => ?_) (fun k21 => ?_)
      · have h := h.1 k21
        refine x_iinc 2 rfl [(2, iV (l2_1 + 1)), (0, .ref (x.2.2.1 + 208)), (1, iV p1)] dX3_nearer_39 (show 2 < 3 by decide) rfl ?_
        refine x_goto (tgt := 2) dX3_nearer_42 (by decide) ?_
        exact x_sub [1, 2, 0] rfl (hJ2 _ _ h)
      · have h := h.2 k21
        refine x_iload_n 2 rfl dX3_nearer_37 ?_
        exact x_iret h c5 rfl dX3_nearer_38
set_option maxRecDepth 100000 in
set_option maxHeartbeats 4000000 in
theorem xX3_after (x : xX) (p1 : Int) (p2 : Int) (μ : xM) (Q : Int → xM → Prop) (hp1 : xIn p1) (hp2 : xIn p2) (h : tX3_after p1 p2 μ Q) : xMet x 5 yX3_after cX3_after 5 (some .int) [.ref (x.2.2.1 + 208), iV p1, iV p2] μ (xQi x Q) := by
  refine xMet_of (by decide +kernel) (Nat.le_of_ble_eq_true rfl) ?_
  show xW x (xRm 5, RX3, cX3_after, 5, (some .int), fun _ _ => True) (xQi x Q) 0 [(0, .ref (x.2.2.1 + 208)), (1, iV p1), (2, iV p2)] [] μ
  refine x_ran (fun n0 => ?_)
  have h := h n0 hp1 hp2
  refine x_iload_n 1 rfl dX3_after_0 ?_
  refine x_istore_n [(3, iV p1), (0, .ref (x.2.2.1 + 208)), (1, iV p1), (2, iV p2)] dX3_after_1 (show 3 < 5 by decide) rfl ?_
  refine x_iconst dX3_after_2 ?_
  refine x_istore [(4, iV 0), (3, iV p1), (0, .ref (x.2.2.1 + 208)), (1, iV p1), (2, iV p2)] dX3_after_3 (show 4 < 5 by decide) rfl ?_
  refine x_sub [2, 4, 1, 0] rfl ?_
  refine x_loop2 (fun l3_1 l4_2 => [(0, .ref (x.2.2.1 + 208)), (2, iV p2), (3, iV l3_1), (4, iV l4_2)]) h (fun J5 l3_1 l4_2 μ3 hJ5 h n4 => ?_)
  refine x_iload 3 rfl dX3_after_5 ?_
  refine x_iload_n 1 rfl dX3_after_7 ?_
  obtain ⟨c5, h⟩ := h
  refine x_icmpge (tgt := 30) c5 hp2 dX3_after_8 (by decide) (fun k6 => ?_) (fun k6 => ?_)
  · have h := h.1 k6
    refine x_iload_n 2 rfl dX3_after_30 ?_
    obtain ⟨c7, h⟩ := h
    exact x_iret h c7 rfl dX3_after_31
  · have h := h.2 k6
    refine x_iload 3 rfl dX3_after_11 ?_
    refine x_bipush dX3_after_13 (by decide) ?_
    refine x_icmpge (tgt := 30) c5 ⟨by decide, by decide⟩ dX3_after_15 (by decide) (fun k8 => ?_) (fun k8 => ?_)
    · have h := h.1 k8
      refine x_iload_n 2 rfl dX3_after_30 ?_
      obtain ⟨c9, h⟩ := h
      exact x_iret h c9 rfl dX3_after_31
    · have h := h.2 k8
      refine x_aload_n 0 rfl dX3_after_18 ?_
      refine x_iload_n 2 rfl dX3_after_19 ?_
      obtain ⟨c10, h⟩ := h
      refine x_callVi (As := [iV l3_1]) (rest := []) cal_X3_nearer ins_X3_nearer sel_X3_nearer ly208 (by decide) rfl (xX3_nearer x l3_1 _ _ c10 h) rfl ml_X3_59 (xRoom (Nat.le_of_ble_eq_true rfl)) (Nat.le_of_ble_eq_true rfl) dX3_after_20 (fun r13 μ11 i14 n12 h => ?_)
      have h := h i14 n12
      refine x_istore_n [(3, iV r13), (0, .ref (x.2.2.1 + 208)), (2, iV p2), (4, iV l4_2)] dX3_after_23 (show 3 < 5 by decide) rfl ?_
      refine x_iinc 3 rfl [(4, iV (l4_2 + 1)), (3, iV r13), (0, .ref (x.2.2.1 + 208)), (2, iV p2)] dX3_after_24 (show 4 < 5 by decide) rfl ?_
      refine x_goto (tgt := 5) dX3_after_27 (by decide) ?_
      exact x_sub [2, 3, 1, 0] rfl (hJ5 _ _ _ h)
set_option maxRecDepth 100000 in
set_option maxHeartbeats 4000000 in
theorem xX4_begin (x : xX) (o : Nat) (p1 : Int) (μ : xM) (Q : xM → Prop) (ho : isNight o) (hp1 : xIn p1) (h : tX4_begin o p1 μ Q) : xMet x 2 yX4_begin cX4_begin 2 none [.ref (x.2.2.1 + o), iV p1] μ (xQv x Q) := by
  refine xMet_of (by decide +kernel) (Nat.le_of_ble_eq_true rfl) ?_
  show xW x (xRm 2, RX4, cX4_begin, 2, none, fun _ _ => True) (xQv x Q) 0 [(0, .ref (x.2.2.1 + o)), (1, iV p1)] [] μ
  refine x_ran (fun n0 => ?_)
  have h := h n0 hp1
  refine x_aload_n 0 rfl dX4_begin_0 ?_
  refine x_iload_n 1 rfl dX4_begin_1 ?_
  refine x_putI (j := 0) ho.1 (by have := ho.2.1; omega) rfl rfl (by decide) inT4 fl_X4_21 tyX4 tyX4_ok nmX4 rfl hp1 (by decide +kernel) dX4_begin_2 (fun μ1 e3 n2 => ?_)
  have h := h μ1 e3 n2
  refine x_aload_n 0 rfl dX4_begin_5 ?_
  refine x_iconst dX4_begin_6 ?_
  refine x_putI (j := 1) ho.1 (by have := ho.2.1; omega) rfl rfl (by decide) inT4 fl_X4_25 tyX4 tyX4_ok nmX4 rfl ⟨by decide, by decide⟩ (by decide +kernel) dX4_begin_7 (fun μ4 e6 n5 => ?_)
  have h := h μ4 e6 n5
  refine x_aload_n 0 rfl dX4_begin_10 ?_
  refine x_iconst dX4_begin_11 ?_
  refine x_putI (j := 2) ho.1 (by have := ho.2.1; omega) rfl rfl (by decide) inT4 fl_X4_28 tyX4 tyX4_ok nmX4 rfl ⟨by decide, by decide⟩ (by decide +kernel) dX4_begin_12 (fun μ7 e9 n8 => ?_)
  have h := h μ7 e9 n8
  refine x_aload_n 0 rfl dX4_begin_15 ?_
  refine x_getR (j := 3) (r := o + 1) ho.1 (by have := ho.2.1; omega) rfl rfl (by decide) inT4 fl_X4_9 dX4_begin_16 ?_
  refine x_bipush dX4_begin_19 (by decide) ?_
  refine x_callSv (As := [.ref (x.2.2.1 + (o + 1)), iV 24]) (rest := []) cal_J7_fill_53178 sta_J7_fill_53178 (xJ7_fill_53178 x (o + 1) 3 24 _ _ ⟨ho.2.2, (by have := ho.2.1; omega), (by decide)⟩ ⟨by decide, by decide⟩ h) rfl ml_X4_15 (xRoom (Nat.le_of_ble_eq_true rfl)) (Nat.le_of_ble_eq_true rfl) dX4_begin_21 (fun μ10 n11 h => ?_)
  have h := h n11
  exact x_vret h rfl dX4_begin_24
set_option maxRecDepth 100000 in
set_option maxHeartbeats 4000000 in
theorem xX4_copyFrom (x : xX) (o : Nat) (p1 : Nat) (μ : xM) (Q : xM → Prop) (ho : isNight o) (hp1 : isNight p1) (h : tX4_copyFrom o p1 μ Q) : xMet x 5 yX4_copyFrom cX4_copyFrom 2 none [.ref (x.2.2.1 + o), .ref (x.2.2.1 + p1)] μ (xQv x Q) := by
  refine xMet_of (by decide +kernel) (Nat.le_of_ble_eq_true rfl) ?_
  show xW x (xRm 5, RX4, cX4_copyFrom, 2, none, fun _ _ => True) (xQv x Q) 0 [(0, .ref (x.2.2.1 + o)), (1, .ref (x.2.2.1 + p1))] [] μ
  refine x_ran (fun n0 => ?_)
  have h := h n0 
  refine x_aload_n 0 rfl dX4_copyFrom_0 ?_
  refine x_aload_n 1 rfl dX4_copyFrom_1 ?_
  refine x_getI (j := 0) hp1.1 (by have := hp1.2.1; omega) rfl rfl (by decide) inT4 fl_X4_21 dX4_copyFrom_2 (fun r1 => ?_)
  refine x_putI (j := 0) ho.1 (by have := ho.2.1; omega) rfl rfl (by decide) inT4 fl_X4_21 tyX4 tyX4_ok nmX4 rfl r1 (by decide +kernel) dX4_copyFrom_5 (fun μ2 e4 n3 => ?_)
  have h := h μ2 e4 n3
  refine x_aload_n 0 rfl dX4_copyFrom_8 ?_
  refine x_aload_n 1 rfl dX4_copyFrom_9 ?_
  refine x_getI (j := 1) hp1.1 (by have := hp1.2.1; omega) rfl rfl (by decide) inT4 fl_X4_25 dX4_copyFrom_10 (fun r5 => ?_)
  refine x_putI (j := 1) ho.1 (by have := ho.2.1; omega) rfl rfl (by decide) inT4 fl_X4_25 tyX4 tyX4_ok nmX4 rfl r5 (by decide +kernel) dX4_copyFrom_13 (fun μ6 e8 n7 => ?_)
  have h := h μ6 e8 n7
  refine x_aload_n 0 rfl dX4_copyFrom_16 ?_
  refine x_aload_n 1 rfl dX4_copyFrom_17 ?_
  refine x_getI (j := 2) hp1.1 (by have := hp1.2.1; omega) rfl rfl (by decide) inT4 fl_X4_28 dX4_copyFrom_18 (fun r9 => ?_)
  refine x_putI (j := 2) ho.1 (by have := ho.2.1; omega) rfl rfl (by decide) inT4 fl_X4_28 tyX4 tyX4_ok nmX4 rfl r9 (by decide +kernel) dX4_copyFrom_21 (fun μ10 e12 n11 => ?_)
  have h := h μ10 e12 n11
  refine x_aload_n 1 rfl dX4_copyFrom_24 ?_
  refine x_getR (j := 3) (r := p1 + 1) hp1.1 (by have := hp1.2.1; omega) rfl rfl (by decide) inT4 fl_X4_9 dX4_copyFrom_25 ?_
  refine x_iconst dX4_copyFrom_28 ?_
  refine x_aload_n 0 rfl dX4_copyFrom_29 ?_
  refine x_getR (j := 3) (r := o + 1) ho.1 (by have := ho.2.1; omega) rfl rfl (by decide) inT4 fl_X4_9 dX4_copyFrom_30 ?_
  refine x_iconst dX4_copyFrom_33 ?_
  refine x_iconst dX4_copyFrom_34 ?_
  refine x_acopy (n := 3) hp1.2.2 (by have := hp1.2.1; omega) ho.2.2 (by have := ho.2.1; omega) (by decide) (by decide) ml_X4_31 (xRoom1 (by decide)) (Nat.le_of_ble_eq_true rfl) dX4_copyFrom_35 (fun μ13 e15 n14 => ?_)
  have h := h μ13 e15 n14
  exact x_vret h rfl dX4_copyFrom_38
set_option maxRecDepth 100000 in
set_option maxHeartbeats 4000000 in
theorem xX4_sitDown (x : xX) (o : Nat) (p1 : Int) (p2 : Int) (μ : xM) (Q : xM → Prop) (ho : isNight o) (hp1 : xIn p1) (hp2 : xIn p2) (h : tX4_sitDown o p1 p2 μ Q) : xMet x 1 yX4_sitDown cX4_sitDown 3 none [.ref (x.2.2.1 + o), iV p1, iV p2] μ (xQv x Q) := by
  refine xMet_of (by decide +kernel) (Nat.le_of_ble_eq_true rfl) ?_
  show xW x (xRm 1, RX4, cX4_sitDown, 3, none, fun _ _ => True) (xQv x Q) 0 [(0, .ref (x.2.2.1 + o)), (1, iV p1), (2, iV p2)] [] μ
  refine x_ran (fun n0 => ?_)
  have h := h n0 hp1 hp2
  refine x_iload_n 1 rfl dX4_sitDown_0 ?_
  refine x_iflt (tgt := 41) hp1  dX4_sitDown_1 (by decide) (fun k1 => ?_) (fun k1 => ?_)
  · have h := h.1 k1
    exact x_vret h rfl dX4_sitDown_41
  · have h := h.2 k1
    refine x_iload_n 1 rfl dX4_sitDown_4 ?_
    refine x_iconst dX4_sitDown_5 ?_
    refine x_icmpge (tgt := 41) hp1 ⟨by decide, by decide⟩ dX4_sitDown_6 (by decide) (fun k2 => ?_) (fun k2 => ?_)
    · have h := h.1 k2
      exact x_vret h rfl dX4_sitDown_41
    · have h := h.2 k2
      refine x_aload_n 0 rfl dX4_sitDown_9 ?_
      refine x_getR (j := 3) (r := o + 1) ho.1 (by have := ho.2.1; omega) rfl rfl (by decide) inT4 fl_X4_9 dX4_sitDown_10 ?_
      refine x_iload_n 1 rfl dX4_sitDown_13 ?_
      refine x_iload_n 2 rfl dX4_sitDown_14 ?_
      obtain ⟨c3, h⟩ := h
      refine x_iast ho.2.2 c3.1 c3.2 hp1 hp2 (by have := ho.2.1; omega) dX4_sitDown_15 (fun μ4 e6 n5 => ?_)
      have h := h μ4 e6 n5
      refine x_aload_n 0 rfl dX4_sitDown_16 ?_
      refine x_dup rfl dX4_sitDown_17 ?_
      refine x_getI (j := 2) ho.1 (by have := ho.2.1; omega) rfl rfl (by decide) inT4 fl_X4_28 dX4_sitDown_18 (fun r7 => ?_)
      refine x_iconst dX4_sitDown_21 ?_
      refine x_aload_n 0 rfl dX4_sitDown_22 ?_
      refine x_getI (j := 1) ho.1 (by have := ho.2.1; omega) rfl rfl (by decide) inT4 fl_X4_25 dX4_sitDown_23 (fun r8 => ?_)
      refine x_ishl dX4_sitDown_26 ?_
      refine x_ior dX4_sitDown_27 ?_
      refine x_putI (j := 2) ho.1 (by have := ho.2.1; omega) rfl rfl (by decide) inT4 fl_X4_28 tyX4 tyX4_ok nmX4 rfl (xOr_in _ _) (by decide +kernel) dX4_sitDown_28 (fun μ9 e11 n10 => ?_)
      have h := h μ9 e11 n10
      refine x_aload_n 0 rfl dX4_sitDown_31 ?_
      refine x_dup rfl dX4_sitDown_32 ?_
      refine x_getI (j := 1) ho.1 (by have := ho.2.1; omega) rfl rfl (by decide) inT4 fl_X4_25 dX4_sitDown_33 (fun r12 => ?_)
      refine x_iconst dX4_sitDown_36 ?_
      refine x_iadd dX4_sitDown_37 ?_
      obtain ⟨c13, h⟩ := h
      refine x_putI (j := 1) ho.1 (by have := ho.2.1; omega) rfl rfl (by decide) inT4 fl_X4_25 tyX4 tyX4_ok nmX4 rfl c13 (by decide +kernel) dX4_sitDown_38 (fun μ14 e16 n15 => ?_)
      have h := h μ14 e16 n15
      exact x_vret h rfl dX4_sitDown_41
set_option maxRecDepth 100000 in
set_option maxHeartbeats 4000000 in
theorem xX4_leaveStanding (x : xX) (o : Nat) (μ : xM) (Q : xM → Prop) (ho : isNight o) (h : tX4_leaveStanding o μ Q) : xMet x 1 yX4_leaveStanding cX4_leaveStanding 1 none [.ref (x.2.2.1 + o)] μ (xQv x Q) := by
  refine xMet_of (by decide +kernel) (Nat.le_of_ble_eq_true rfl) ?_
  show xW x (xRm 1, RX4, cX4_leaveStanding, 1, none, fun _ _ => True) (xQv x Q) 0 [(0, .ref (x.2.2.1 + o))] [] μ
  refine x_ran (fun n0 => ?_)
  have h := h n0 
  refine x_aload_n 0 rfl dX4_leaveStanding_0 ?_
  refine x_dup rfl dX4_leaveStanding_1 ?_
  refine x_getI (j := 1) ho.1 (by have := ho.2.1; omega) rfl rfl (by decide) inT4 fl_X4_25 dX4_leaveStanding_2 (fun r1 => ?_)
  refine x_iconst dX4_leaveStanding_5 ?_
  refine x_iadd dX4_leaveStanding_6 ?_
  obtain ⟨c2, h⟩ := h
  refine x_putI (j := 1) ho.1 (by have := ho.2.1; omega) rfl rfl (by decide) inT4 fl_X4_25 tyX4 tyX4_ok nmX4 rfl c2 (by decide +kernel) dX4_leaveStanding_7 (fun μ3 e5 n4 => ?_)
  have h := h μ3 e5 n4
  exact x_vret h rfl dX4_leaveStanding_10
set_option maxRecDepth 100000 in
set_option maxHeartbeats 4000000 in
theorem xX4_standingBits (x : xX) (o : Nat) (μ : xM) (Q : Int → xM → Prop) (ho : isNight o) (h : tX4_standingBits o μ Q) : xMet x 1 yX4_standingBits cX4_standingBits 1 (some .int) [.ref (x.2.2.1 + o)] μ (xQi x Q) := by
  refine xMet_of (by decide +kernel) (Nat.le_of_ble_eq_true rfl) ?_
  show xW x (xRm 1, RX4, cX4_standingBits, 1, (some .int), fun _ _ => True) (xQi x Q) 0 [(0, .ref (x.2.2.1 + o))] [] μ
  refine x_ran (fun n0 => ?_)
  have h := h n0 
  refine x_iconst dX4_standingBits_0 ?_
  refine x_aload_n 0 rfl dX4_standingBits_1 ?_
  refine x_getI (j := 1) ho.1 (by have := ho.2.1; omega) rfl rfl (by decide) inT4 fl_X4_25 dX4_standingBits_2 (fun r1 => ?_)
  refine x_ishl dX4_standingBits_5 ?_
  refine x_iconst dX4_standingBits_6 ?_
  refine x_isub dX4_standingBits_7 ?_
  refine x_aload_n 0 rfl dX4_standingBits_8 ?_
  refine x_getI (j := 2) ho.1 (by have := ho.2.1; omega) rfl rfl (by decide) inT4 fl_X4_28 dX4_standingBits_9 (fun r2 => ?_)
  refine x_iconst dX4_standingBits_12 ?_
  refine x_ixor dX4_standingBits_13 ?_
  refine x_iand dX4_standingBits_14 ?_
  exact x_iret h (xAnd_in _ _) rfl dX4_standingBits_15
set_option maxRecDepth 100000 in
set_option maxHeartbeats 4000000 in
theorem xX4_seatedGuest (x : xX) (o : Nat) (p1 : Int) (μ : xM) (Q : Int → xM → Prop) (ho : isNight o) (hp1 : xIn p1) (h : tX4_seatedGuest o p1 μ Q) : xMet x 1 yX4_seatedGuest cX4_seatedGuest 4 (some .int) [.ref (x.2.2.1 + o), iV p1] μ (xQi x Q) := by
  refine xMet_of (by decide +kernel) (Nat.le_of_ble_eq_true rfl) ?_
  show xW x (xRm 1, RX4, cX4_seatedGuest, 4, (some .int), fun _ _ => True) (xQi x Q) 0 [(0, .ref (x.2.2.1 + o)), (1, iV p1)] [] μ
  refine x_ran (fun n0 => ?_)
  have h := h n0 hp1
  refine x_iconst dX4_seatedGuest_0 ?_
  refine x_istore_n [(2, iV 0), (0, .ref (x.2.2.1 + o)), (1, iV p1)] dX4_seatedGuest_1 (show 2 < 4 by decide) rfl ?_
  refine x_iconst dX4_seatedGuest_2 ?_
  refine x_istore_n [(3, iV 0), (2, iV 0), (0, .ref (x.2.2.1 + o)), (1, iV p1)] dX4_seatedGuest_3 (show 3 < 4 by decide) rfl ?_
  refine x_sub [2, 3, 1, 0] rfl ?_
  refine x_loop2 (fun l2_1 l3_2 => [(0, .ref (x.2.2.1 + o)), (1, iV p1), (2, iV l2_1), (3, iV l3_2)]) h (fun J4 l2_1 l3_2 μ3 hJ4 h n4 => ?_)
  refine x_iload_n 3 rfl dX4_seatedGuest_4 ?_
  refine x_aload_n 0 rfl dX4_seatedGuest_5 ?_
  refine x_getI (j := 1) ho.1 (by have := ho.2.1; omega) rfl rfl (by decide) inT4 fl_X4_25 dX4_seatedGuest_6 (fun r5 => ?_)
  obtain ⟨c6, h⟩ := h
  refine x_icmpge (tgt := 40) c6 r5 dX4_seatedGuest_9 (by decide) (fun k7 => ?_) (fun k7 => ?_)
  · have h := h.1 k7
    refine x_iconst dX4_seatedGuest_40 ?_
    exact x_iret h ⟨by decide, by decide⟩ rfl dX4_seatedGuest_41
  · have h := h.2 k7
    refine x_aload_n 0 rfl dX4_seatedGuest_12 ?_
    refine x_getI (j := 2) ho.1 (by have := ho.2.1; omega) rfl rfl (by decide) inT4 fl_X4_28 dX4_seatedGuest_13 (fun r8 => ?_)
    refine x_iload_n 3 rfl dX4_seatedGuest_16 ?_
    refine x_ishr dX4_seatedGuest_17 ?_
    refine x_iconst dX4_seatedGuest_18 ?_
    refine x_iand dX4_seatedGuest_19 ?_
    refine x_iconst dX4_seatedGuest_20 ?_
    refine x_icmpne (tgt := 34) (xAnd_in _ _) ⟨by decide, by decide⟩ dX4_seatedGuest_21 (by decide) (fun k9 => ?_) (fun k9 => ?_)
    · have h := h.1 k9
      refine x_iinc 3 rfl [(3, iV (l3_2 + 1)), (0, .ref (x.2.2.1 + o)), (1, iV p1), (2, iV l2_1)] dX4_seatedGuest_34 (show 3 < 4 by decide) rfl ?_
      refine x_goto (tgt := 4) dX4_seatedGuest_37 (by decide) ?_
      exact x_sub [1, 2, 3, 0] rfl (hJ4 _ _ _ h)
    · have h := h.2 k9
      refine x_iload_n 2 rfl dX4_seatedGuest_24 ?_
      refine x_iload_n 1 rfl dX4_seatedGuest_25 ?_
      obtain ⟨c10, h⟩ := h
      refine x_icmpne (tgt := 31) c10 hp1 dX4_seatedGuest_26 (by decide) (fun k11 => ?_) (fun k11 => ?_)
      · have h := h.1 k11
        refine x_iinc 2 rfl [(2, iV (l2_1 + 1)), (0, .ref (x.2.2.1 + o)), (1, iV p1), (3, iV l3_2)] dX4_seatedGuest_31 (show 2 < 4 by decide) rfl ?_
        refine x_iinc 3 rfl [(3, iV (l3_2 + 1)), (2, iV (l2_1 + 1)), (0, .ref (x.2.2.1 + o)), (1, iV p1)] dX4_seatedGuest_34 (show 3 < 4 by decide) rfl ?_
        refine x_goto (tgt := 4) dX4_seatedGuest_37 (by decide) ?_
        exact x_sub [2, 3, 1, 0] rfl (hJ4 _ _ _ h)
      · have h := h.2 k11
        refine x_iload_n 3 rfl dX4_seatedGuest_29 ?_
        exact x_iret h c6 rfl dX4_seatedGuest_30
set_option maxRecDepth 100000 in
set_option maxHeartbeats 4000000 in
theorem xX5_appendFour (x : xX) (p1 : Int) (μ : xM) (Q : xM → Prop) (hp1 : xIn p1) (h : tX5_appendFour p1 μ Q) : xMet x 1 yX5_appendFour cX5_appendFour 3 none [.ref (x.2.2.1 + 35), iV p1] μ (xQv x Q) := by
  refine xMet_of (by decide +kernel) (Nat.le_of_ble_eq_true rfl) ?_
  show xW x (xRm 1, RX5, cX5_appendFour, 3, none, fun _ _ => True) (xQv x Q) 0 [(0, .ref (x.2.2.1 + 35)), (1, iV p1)] [] μ
  refine x_ran (fun n0 => ?_)
  have h := h n0 hp1
  refine x_bipush dX5_appendFour_0 (by decide) ?_
  refine x_istore_n [(2, iV 24), (0, .ref (x.2.2.1 + 35)), (1, iV p1)] dX5_appendFour_2 (show 2 < 3 by decide) rfl ?_
  refine x_sub [1, 2, 0] rfl ?_
  refine x_loop1 (fun l2_1 => [(0, .ref (x.2.2.1 + 35)), (1, iV p1), (2, iV l2_1)]) h (fun J3 l2_1 μ2 hJ3 h n3 => ?_)
  refine x_iload_n 2 rfl dX5_appendFour_3 ?_
  obtain ⟨c4, h⟩ := h
  refine x_iflt (tgt := 49) c4  dX5_appendFour_4 (by decide) (fun k5 => ?_) (fun k5 => ?_)
  · have h := h.1 k5
    exact x_vret h rfl dX5_appendFour_49
  · have h := h.2 k5
    refine x_aload_n 0 rfl dX5_appendFour_7 ?_
    refine x_getI (j := 0) ly35 (by decide) rfl rfl (by decide) inT5 fl_X5_25 dX5_appendFour_8 (fun r6 => ?_)
    refine x_sipush dX5_appendFour_11 (by decide) ?_
    refine x_icmpge (tgt := 49) r6 ⟨by decide, by decide⟩ dX5_appendFour_14 (by decide) (fun k7 => ?_) (fun k7 => ?_)
    · have h := h.1 k7
      exact x_vret h rfl dX5_appendFour_49
    · have h := h.2 k7
      refine x_aload_n 0 rfl dX5_appendFour_17 ?_
      refine x_getR (j := 3) (r := 36) ly35 (by decide) rfl rfl (by decide) inT5 fl_X5_9 dX5_appendFour_18 ?_
      refine x_aload_n 0 rfl dX5_appendFour_21 ?_
      refine x_getI (j := 0) ly35 (by decide) rfl rfl (by decide) inT5 fl_X5_25 dX5_appendFour_22 (fun r8 => ?_)
      refine x_iload_n 1 rfl dX5_appendFour_25 ?_
      refine x_iload_n 2 rfl dX5_appendFour_26 ?_
      refine x_iushr dX5_appendFour_27 ?_
      refine x_sipush dX5_appendFour_28 (by decide) ?_
      refine x_iand dX5_appendFour_31 ?_
      obtain ⟨c9, h⟩ := h
      refine x_iast ly36 c9.1 c9.2 r8 (xAnd_in _ _) (by decide) dX5_appendFour_32 (fun μ10 e12 n11 => ?_)
      have h := h μ10 e12 n11
      refine x_aload_n 0 rfl dX5_appendFour_33 ?_
      refine x_dup rfl dX5_appendFour_34 ?_
      refine x_getI (j := 0) ly35 (by decide) rfl rfl (by decide) inT5 fl_X5_25 dX5_appendFour_35 (fun r13 => ?_)
      refine x_iconst dX5_appendFour_38 ?_
      refine x_iadd dX5_appendFour_39 ?_
      obtain ⟨c14, h⟩ := h
      refine x_putI (j := 0) ly35 (by decide) rfl rfl (by decide) inT5 fl_X5_25 tyX5 tyX5_ok nmX5 rfl c14 (by decide +kernel) dX5_appendFour_40 (fun μ15 e17 n16 => ?_)
      have h := h μ15 e17 n16
      refine x_iinc 2 rfl [(2, iV (l2_1 + (-8))), (0, .ref (x.2.2.1 + 35)), (1, iV p1)] dX5_appendFour_43 (show 2 < 3 by decide) rfl ?_
      refine x_goto (tgt := 3) dX5_appendFour_46 (by decide) ?_
      exact x_sub [1, 2, 0] rfl (hJ3 _ _ h)
set_option maxRecDepth 100000 in
set_option maxHeartbeats 4000000 in
theorem xX5_append (x : xX) (p1 : Int) (p2 : Int) (p3 : Int) (p4 : Int) (p5 : Int) (μ : xM) (Q : Int → xM → Prop) (hp1 : xIn p1) (hp2 : xIn p2) (hp3 : xIn p3) (hp4 : xIn p4) (hp5 : xIn p5) (h : tX5_append p1 p2 p3 p4 p5 μ Q) : xMet x 2 yX5_append cX5_append 6 (some .int) [.ref (x.2.2.1 + 35), iV p1, iV p2, iV p3, iV p4, iV p5] μ (xQi x Q) := by
  refine xMet_of (by decide +kernel) (Nat.le_of_ble_eq_true rfl) ?_
  show xW x (xRm 2, RX5, cX5_append, 6, (some .int), fun _ _ => True) (xQi x Q) 0 [(0, .ref (x.2.2.1 + 35)), (1, iV p1), (2, iV p2), (3, iV p3), (4, iV p4), (5, iV p5)] [] μ
  refine x_ran (fun n0 => ?_)
  have h := h n0 hp1 hp2 hp3 hp4 hp5
  refine x_aload_n 0 rfl dX5_append_0 ?_
  refine x_getI (j := 0) ly35 (by decide) rfl rfl (by decide) inT5 fl_X5_25 dX5_append_1 (fun r1 => ?_)
  refine x_bipush dX5_append_4 (by decide) ?_
  refine x_iadd dX5_append_6 ?_
  refine x_sipush dX5_append_7 (by decide) ?_
  obtain ⟨c2, h⟩ := h
  refine x_icmple (tgt := 15) c2 ⟨by decide, by decide⟩ dX5_append_10 (by decide) (fun k3 => ?_) (fun k3 => ?_)
  · have h := h.1 k3
    refine x_aload_n 0 rfl dX5_append_15 ?_
    refine x_iload_n 1 rfl dX5_append_16 ?_
    refine x_callVv (As := [iV p1]) (rest := []) cal_X5_appendFour ins_X5_appendFour sel_X5_appendFour ly35 (by decide) rfl (xX5_appendFour x p1 _ _ hp1 h) rfl ml_X5_29 (xRoom (Nat.le_of_ble_eq_true rfl)) (Nat.le_of_ble_eq_true rfl) dX5_append_17 (fun μ4 n5 h => ?_)
    have h := h n5
    refine x_aload_n 0 rfl dX5_append_20 ?_
    refine x_iload_n 2 rfl dX5_append_21 ?_
    refine x_callVv (As := [iV p2]) (rest := []) cal_X5_appendFour ins_X5_appendFour sel_X5_appendFour ly35 (by decide) rfl (xX5_appendFour x p2 _ _ hp2 h) rfl ml_X5_29 (xRoom (Nat.le_of_ble_eq_true rfl)) (Nat.le_of_ble_eq_true rfl) dX5_append_22 (fun μ6 n7 h => ?_)
    have h := h n7
    refine x_aload_n 0 rfl dX5_append_25 ?_
    refine x_iload_n 3 rfl dX5_append_26 ?_
    refine x_callVv (As := [iV p3]) (rest := []) cal_X5_appendFour ins_X5_appendFour sel_X5_appendFour ly35 (by decide) rfl (xX5_appendFour x p3 _ _ hp3 h) rfl ml_X5_29 (xRoom (Nat.le_of_ble_eq_true rfl)) (Nat.le_of_ble_eq_true rfl) dX5_append_27 (fun μ8 n9 h => ?_)
    have h := h n9
    refine x_aload_n 0 rfl dX5_append_30 ?_
    refine x_iload 4 rfl dX5_append_31 ?_
    refine x_callVv (As := [iV p4]) (rest := []) cal_X5_appendFour ins_X5_appendFour sel_X5_appendFour ly35 (by decide) rfl (xX5_appendFour x p4 _ _ hp4 h) rfl ml_X5_29 (xRoom (Nat.le_of_ble_eq_true rfl)) (Nat.le_of_ble_eq_true rfl) dX5_append_33 (fun μ10 n11 h => ?_)
    have h := h n11
    refine x_aload_n 0 rfl dX5_append_36 ?_
    refine x_iload 5 rfl dX5_append_37 ?_
    refine x_callVv (As := [iV p5]) (rest := []) cal_X5_appendFour ins_X5_appendFour sel_X5_appendFour ly35 (by decide) rfl (xX5_appendFour x p5 _ _ hp5 h) rfl ml_X5_29 (xRoom (Nat.le_of_ble_eq_true rfl)) (Nat.le_of_ble_eq_true rfl) dX5_append_39 (fun μ12 n13 h => ?_)
    have h := h n13
    refine x_aload_n 0 rfl dX5_append_42 ?_
    refine x_getI (j := 0) ly35 (by decide) rfl rfl (by decide) inT5 fl_X5_25 dX5_append_43 (fun r14 => ?_)
    exact x_iret h r14 rfl dX5_append_46
  · have h := h.2 k3
    refine x_iconst dX5_append_13 ?_
    exact x_iret h ⟨by decide, by decide⟩ rfl dX5_append_14
set_option maxRecDepth 100000 in
set_option maxHeartbeats 4000000 in
theorem xX5_byteAt (x : xX) (p1 : Int) (μ : xM) (Q : Int → xM → Prop) (hp1 : xIn p1) (h : tX5_byteAt p1 μ Q) : xMet x 1 yX5_byteAt cX5_byteAt 2 (some .int) [.ref (x.2.2.1 + 35), iV p1] μ (xQi x Q) := by
  refine xMet_of (by decide +kernel) (Nat.le_of_ble_eq_true rfl) ?_
  show xW x (xRm 1, RX5, cX5_byteAt, 2, (some .int), fun _ _ => True) (xQi x Q) 0 [(0, .ref (x.2.2.1 + 35)), (1, iV p1)] [] μ
  refine x_ran (fun n0 => ?_)
  have h := h n0 hp1
  refine x_iload_n 1 rfl dX5_byteAt_0 ?_
  refine x_iflt (tgt := 20) hp1  dX5_byteAt_1 (by decide) (fun k1 => ?_) (fun k1 => ?_)
  · have h := h.1 k1
    refine x_iconst dX5_byteAt_20 ?_
    exact x_iret h ⟨by decide, by decide⟩ rfl dX5_byteAt_21
  · have h := h.2 k1
    refine x_iload_n 1 rfl dX5_byteAt_4 ?_
    refine x_sipush dX5_byteAt_5 (by decide) ?_
    refine x_icmpge (tgt := 20) hp1 ⟨by decide, by decide⟩ dX5_byteAt_8 (by decide) (fun k2 => ?_) (fun k2 => ?_)
    · have h := h.1 k2
      refine x_iconst dX5_byteAt_20 ?_
      exact x_iret h ⟨by decide, by decide⟩ rfl dX5_byteAt_21
    · have h := h.2 k2
      refine x_aload_n 0 rfl dX5_byteAt_11 ?_
      refine x_getR (j := 3) (r := 36) ly35 (by decide) rfl rfl (by decide) inT5 fl_X5_9 dX5_byteAt_12 ?_
      refine x_iload_n 1 rfl dX5_byteAt_15 ?_
      obtain ⟨c3, h⟩ := h
      refine x_iald ly36 c3.1 c3.2 hp1 (by decide) dX5_byteAt_16 (fun r4 => ?_)
      refine x_goto (tgt := 21) dX5_byteAt_17 (by decide) ?_
      exact x_iret h r4 rfl dX5_byteAt_21
set_option maxRecDepth 100000 in
set_option maxHeartbeats 4000000 in
theorem xX5_runEnd (x : xX) (p1 : Int) (p2 : Int) (μ : xM) (Q : Int → xM → Prop) (hp1 : xIn p1) (hp2 : xIn p2) (h : tX5_runEnd p1 p2 μ Q) : xMet x 2 yX5_runEnd cX5_runEnd 4 (some .int) [.ref (x.2.2.1 + 35), iV p1, iV p2] μ (xQi x Q) := by
  refine xMet_of (by decide +kernel) (Nat.le_of_ble_eq_true rfl) ?_
  show xW x (xRm 2, RX5, cX5_runEnd, 4, (some .int), fun _ _ => True) (xQi x Q) 0 [(0, .ref (x.2.2.1 + 35)), (1, iV p1), (2, iV p2)] [] μ
  refine x_ran (fun n0 => ?_)
  have h := h n0 hp1 hp2
  refine x_aload_n 0 rfl dX5_runEnd_0 ?_
  refine x_getI (j := 11) ly35 (by decide) rfl rfl (by decide) inT5 fl_X5_150 dX5_runEnd_1 (fun r1 => ?_)
  refine x_istore_n [(3, iV (μ 35 11)), (0, .ref (x.2.2.1 + 35)), (1, iV p1), (2, iV p2)] dX5_runEnd_4 (show 3 < 4 by decide) rfl ?_
  refine x_sub [1, 2, 3, 0] rfl ?_
  refine x_loop1 (fun l3_2 => [(0, .ref (x.2.2.1 + 35)), (1, iV p1), (2, iV p2), (3, iV l3_2)]) h (fun J5 l3_2 μ3 hJ5 h n4 => ?_)
  refine x_iload_n 3 rfl dX5_runEnd_5 ?_
  refine x_aload_n 0 rfl dX5_runEnd_6 ?_
  refine x_getI (j := 9) ly35 (by decide) rfl rfl (by decide) inT5 fl_X5_57 dX5_runEnd_7 (fun r5 => ?_)
  obtain ⟨c6, h⟩ := h
  refine x_icmpge (tgt := 37) c6 r5 dX5_runEnd_10 (by decide) (fun k7 => ?_) (fun k7 => ?_)
  · have h := h.1 k7
    refine x_iload_n 3 rfl dX5_runEnd_37 ?_
    exact x_iret h c6 rfl dX5_runEnd_38
  · have h := h.2 k7
    refine x_aload_n 0 rfl dX5_runEnd_13 ?_
    refine x_iload_n 3 rfl dX5_runEnd_14 ?_
    refine x_callVi (As := [iV l3_2]) (rest := []) cal_X5_byteAt ins_X5_byteAt sel_X5_byteAt ly35 (by decide) rfl (xX5_byteAt x l3_2 _ _ c6 h) rfl ml_X5_172 (xRoom (Nat.le_of_ble_eq_true rfl)) (Nat.le_of_ble_eq_true rfl) dX5_runEnd_15 (fun r10 μ8 i11 n9 h => ?_)
    have h := h i11 n9
    refine x_iload_n 1 rfl dX5_runEnd_18 ?_
    refine x_icmplt (tgt := 37) i11 hp1 dX5_runEnd_19 (by decide) (fun k12 => ?_) (fun k12 => ?_)
    · have h := h.1 k12
      refine x_iload_n 3 rfl dX5_runEnd_37 ?_
      exact x_iret h c6 rfl dX5_runEnd_38
    · have h := h.2 k12
      refine x_aload_n 0 rfl dX5_runEnd_22 ?_
      refine x_iload_n 3 rfl dX5_runEnd_23 ?_
      refine x_callVi (As := [iV l3_2]) (rest := []) cal_X5_byteAt ins_X5_byteAt sel_X5_byteAt ly35 (by decide) rfl (xX5_byteAt x l3_2 _ _ c6 h) rfl ml_X5_172 (xRoom (Nat.le_of_ble_eq_true rfl)) (Nat.le_of_ble_eq_true rfl) dX5_runEnd_24 (fun r15 μ13 i16 n14 h => ?_)
      have h := h i16 n14
      refine x_iload_n 2 rfl dX5_runEnd_27 ?_
      refine x_icmpgt (tgt := 37) i16 hp2 dX5_runEnd_28 (by decide) (fun k17 => ?_) (fun k17 => ?_)
      · have h := h.1 k17
        refine x_iload_n 3 rfl dX5_runEnd_37 ?_
        exact x_iret h c6 rfl dX5_runEnd_38
      · have h := h.2 k17
        refine x_iinc 3 rfl [(3, iV (l3_2 + 1)), (0, .ref (x.2.2.1 + 35)), (1, iV p1), (2, iV p2)] dX5_runEnd_31 (show 3 < 4 by decide) rfl ?_
        refine x_goto (tgt := 5) dX5_runEnd_34 (by decide) ?_
        exact x_sub [1, 2, 3, 0] rfl (hJ5 _ _ h)
set_option maxRecDepth 100000 in
set_option maxHeartbeats 4000000 in
theorem xX5_next_b169 (x : xX)  (b1 : Int) (μ : xM) (Q : xM → Prop)    (h : tX5_next_b169  b1 μ Q ) : xW x (xRm 3, RX5, cX5_next, 2, none, fun _ _ => True) (xQv x Q) 169 [(0, .ref (x.2.2.1 + 35)), (1, iV b1)] [] μ := by
  refine x_ran (fun n0 => ?_)
  have h := h n0
  refine x_iload_n 1 rfl dX5_next_169 ?_
  refine x_bipush dX5_next_170 (by decide) ?_
  obtain ⟨c26, h⟩ := h
  refine x_icmplt (tgt := 218) c26 ⟨by decide, by decide⟩ dX5_next_172 (by decide) (fun k27 => ?_) (fun k27 => ?_)
  · have h := h.1 k27
    refine x_aload_n 0 rfl dX5_next_218 ?_
    refine x_iconst dX5_next_219 ?_
    refine x_putI (j := 10) ly35 (by decide) rfl rfl (by decide) inT5 fl_X5_70 tyX5 tyX5_ok nmX5 rfl ⟨by decide, by decide⟩ (by decide +kernel) dX5_next_220 (fun μ28 e30 n29 => ?_)
    have h := h μ28 e30 n29
    exact x_vret h rfl dX5_next_223
  · have h := h.2 k27
    refine x_iload_n 1 rfl dX5_next_175 ?_
    refine x_bipush dX5_next_176 (by decide) ?_
    refine x_icmpgt (tgt := 218) c26 ⟨by decide, by decide⟩ dX5_next_178 (by decide) (fun k31 => ?_) (fun k31 => ?_)
    · have h := h.1 k31
      refine x_aload_n 0 rfl dX5_next_218 ?_
      refine x_iconst dX5_next_219 ?_
      refine x_putI (j := 10) ly35 (by decide) rfl rfl (by decide) inT5 fl_X5_70 tyX5 tyX5_ok nmX5 rfl ⟨by decide, by decide⟩ (by decide +kernel) dX5_next_220 (fun μ32 e34 n33 => ?_)
      have h := h μ32 e34 n33
      exact x_vret h rfl dX5_next_223
    · have h := h.2 k31
      refine x_aload_n 0 rfl dX5_next_181 ?_
      refine x_aload_n 0 rfl dX5_next_182 ?_
      refine x_bipush dX5_next_183 (by decide) ?_
      refine x_bipush dX5_next_185 (by decide) ?_
      refine x_callVi (As := [iV 48, iV 57]) (rest := [.ref (x.2.2.1 + 35)]) cal_X5_runEnd ins_X5_runEnd sel_X5_runEnd ly35 (by decide) rfl (xX5_runEnd x 48 57 _ _ ⟨by decide, by decide⟩ ⟨by decide, by decide⟩ h) rfl ml_X5_215 (xRoom (Nat.le_of_ble_eq_true rfl)) (Nat.le_of_ble_eq_true rfl) dX5_next_187 (fun r37 μ35 i38 n36 h => ?_)
      have h := h i38 n36
      refine x_putI (j := 12) ly35 (by decide) rfl rfl (by decide) inT5 fl_X5_60 tyX5 tyX5_ok nmX5 rfl i38 (by decide +kernel) dX5_next_190 (fun μ39 e41 n40 => ?_)
      have h := h μ39 e41 n40
      refine x_aload_n 0 rfl dX5_next_193 ?_
      refine x_aload_n 0 rfl dX5_next_194 ?_
      refine x_getI (j := 12) ly35 (by decide) rfl rfl (by decide) inT5 fl_X5_60 dX5_next_195 (fun r42 => ?_)
      refine x_aload_n 0 rfl dX5_next_198 ?_
      refine x_getI (j := 11) ly35 (by decide) rfl rfl (by decide) inT5 fl_X5_150 dX5_next_199 (fun r43 => ?_)
      refine x_isub dX5_next_202 ?_
      refine x_iconst dX5_next_203 ?_
      obtain ⟨c44, h⟩ := h
      refine x_icmpgt (tgt := 211) c44 ⟨by decide, by decide⟩ dX5_next_204 (by decide) (fun k45 => ?_) (fun k45 => ?_)
      · have h := h.1 k45
        refine x_iconst dX5_next_211 ?_
        refine x_putI (j := 10) ly35 (by decide) rfl rfl (by decide) inT5 fl_X5_70 tyX5 tyX5_ok nmX5 rfl ⟨by decide, by decide⟩ (by decide +kernel) dX5_next_212 (fun μ46 e48 n47 => ?_)
        have h := h μ46 e48 n47
        refine x_goto (tgt := 223) dX5_next_215 (by decide) ?_
        exact x_vret h rfl dX5_next_223
      · have h := h.2 k45
        refine x_iconst dX5_next_207 ?_
        refine x_goto (tgt := 212) dX5_next_208 (by decide) ?_
        refine x_putI (j := 10) ly35 (by decide) rfl rfl (by decide) inT5 fl_X5_70 tyX5 tyX5_ok nmX5 rfl ⟨by decide, by decide⟩ (by decide +kernel) dX5_next_212 (fun μ49 e51 n50 => ?_)
        have h := h μ49 e51 n50
        refine x_goto (tgt := 223) dX5_next_215 (by decide) ?_
        exact x_vret h rfl dX5_next_223
set_option maxRecDepth 100000 in
set_option maxHeartbeats 4000000 in
theorem xX5_next_b45 (x : xX)   (μ : xM) (Q : xM → Prop)    (h : tX5_next_b45   μ Q ) : xW x (xRm 3, RX5, cX5_next, 2, none, fun _ _ => True) (xQv x Q) 45 [(0, .ref (x.2.2.1 + 35))] [] μ := by
  refine x_ran (fun n0 => ?_)
  have h := h n0
  refine x_aload_n 0 rfl dX5_next_45 ?_
  refine x_aload_n 0 rfl dX5_next_46 ?_
  refine x_getI (j := 11) ly35 (by decide) rfl rfl (by decide) inT5 fl_X5_150 dX5_next_47 (fun r10 => ?_)
  refine x_iconst dX5_next_50 ?_
  refine x_iadd dX5_next_51 ?_
  obtain ⟨c11, h⟩ := h
  refine x_putI (j := 12) ly35 (by decide) rfl rfl (by decide) inT5 fl_X5_60 tyX5 tyX5_ok nmX5 rfl c11 (by decide +kernel) dX5_next_52 (fun μ12 e14 n13 => ?_)
  have h := h μ12 e14 n13
  refine x_aload_n 0 rfl dX5_next_55 ?_
  refine x_aload_n 0 rfl dX5_next_56 ?_
  refine x_getI (j := 11) ly35 (by decide) rfl rfl (by decide) inT5 fl_X5_150 dX5_next_57 (fun r15 => ?_)
  refine x_callVi (As := [iV (μ12 35 11)]) (rest := []) cal_X5_byteAt ins_X5_byteAt sel_X5_byteAt ly35 (by decide) rfl (xX5_byteAt x (μ12 35 11) _ _ r15 h) rfl ml_X5_172 (xRoom (Nat.le_of_ble_eq_true rfl)) (Nat.le_of_ble_eq_true rfl) dX5_next_60 (fun r18 μ16 i19 n17 h => ?_)
  have h := h i19 n17
  refine x_istore_n [(1, iV r18), (0, .ref (x.2.2.1 + 35))] dX5_next_63 (show 1 < 2 by decide) rfl ?_
  refine x_aload_n 1 rfl dX5_next_64 ?_
  refine x_getI (j := 11) ly35 (by decide) rfl rfl (by decide) inT5 fl_X5_150 dX5_next_65 (fun r20 => ?_)
  refine x_aload_n 1 rfl dX5_next_68 ?_
  refine x_getI (j := 9) ly35 (by decide) rfl rfl (by decide) inT5 fl_X5_57 dX5_next_69 (fun r21 => ?_)
  refine x_icmplt (tgt := 91) r20 r21 dX5_next_72 (by decide) (fun k22 => ?_) (fun k22 => ?_)
  · have h := h.1 k22
    refine x_iload_n 0 rfl dX5_next_91 ?_
    refine x_bipush dX5_next_92 (by decide) ?_
    refine x_icmpne (tgt := 105) i19 ⟨by decide, by decide⟩ dX5_next_94 (by decide) (fun k23 => ?_) (fun k23 => ?_)
    · have h := h.1 k23
      refine x_iload_n 0 rfl dX5_next_105 ?_
      refine x_bipush dX5_next_106 (by decide) ?_
      refine x_icmpne (tgt := 119) i19 ⟨by decide, by decide⟩ dX5_next_108 (by decide) (fun k24 => ?_) (fun k24 => ?_)
      · have h := h.1 k24
        refine x_iload_n 0 rfl dX5_next_119 ?_
        refine x_bipush dX5_next_120 (by decide) ?_
        refine x_icmplt (tgt := 169) i19 ⟨by decide, by decide⟩ dX5_next_122 (by decide) (fun k25 => ?_) (fun k25 => ?_)
        · have h := h.1 k25
          exact x_sub [1, 0] rfl (xX5_next_b169 x r18 μ16 Q   h)
        · have h := h.2 k25
          refine x_iload_n 0 rfl dX5_next_125 ?_
          refine x_bipush dX5_next_126 (by decide) ?_
          refine x_icmpgt (tgt := 169) i19 ⟨by decide, by decide⟩ dX5_next_128 (by decide) (fun k52 => ?_) (fun k52 => ?_)
          · have h := h.1 k52
            exact x_sub [1, 0] rfl (xX5_next_b169 x r18 μ16 Q   h)
          · have h := h.2 k52
            refine x_aload_n 1 rfl dX5_next_131 ?_
            refine x_aload_n 1 rfl dX5_next_132 ?_
            refine x_bipush dX5_next_133 (by decide) ?_
            refine x_bipush dX5_next_135 (by decide) ?_
            refine x_callVi (As := [iV 97, iV 122]) (rest := [.ref (x.2.2.1 + 35)]) cal_X5_runEnd ins_X5_runEnd sel_X5_runEnd ly35 (by decide) rfl (xX5_runEnd x 97 122 _ _ ⟨by decide, by decide⟩ ⟨by decide, by decide⟩ h) rfl ml_X5_215 (xRoom (Nat.le_of_ble_eq_true rfl)) (Nat.le_of_ble_eq_true rfl) dX5_next_137 (fun r55 μ53 i56 n54 h => ?_)
            have h := h i56 n54
            refine x_putI (j := 12) ly35 (by decide) rfl rfl (by decide) inT5 fl_X5_60 tyX5 tyX5_ok nmX5 rfl i56 (by decide +kernel) dX5_next_140 (fun μ57 e59 n58 => ?_)
            have h := h μ57 e59 n58
            refine x_aload_n 1 rfl dX5_next_143 ?_
            refine x_aload_n 1 rfl dX5_next_144 ?_
            refine x_getI (j := 12) ly35 (by decide) rfl rfl (by decide) inT5 fl_X5_60 dX5_next_145 (fun r60 => ?_)
            refine x_aload_n 1 rfl dX5_next_148 ?_
            refine x_getI (j := 11) ly35 (by decide) rfl rfl (by decide) inT5 fl_X5_150 dX5_next_149 (fun r61 => ?_)
            refine x_isub dX5_next_152 ?_
            refine x_bipush dX5_next_153 (by decide) ?_
            obtain ⟨c62, h⟩ := h
            refine x_icmpgt (tgt := 162) c62 ⟨by decide, by decide⟩ dX5_next_155 (by decide) (fun k63 => ?_) (fun k63 => ?_)
            · have h := h.1 k63
              refine x_iconst dX5_next_162 ?_
              refine x_putI (j := 10) ly35 (by decide) rfl rfl (by decide) inT5 fl_X5_70 tyX5 tyX5_ok nmX5 rfl ⟨by decide, by decide⟩ (by decide +kernel) dX5_next_163 (fun μ64 e66 n65 => ?_)
              have h := h μ64 e66 n65
              refine x_goto (tgt := 223) dX5_next_166 (by decide) ?_
              exact x_vret h rfl dX5_next_223
            · have h := h.2 k63
              refine x_iconst dX5_next_158 ?_
              refine x_goto (tgt := 163) dX5_next_159 (by decide) ?_
              refine x_putI (j := 10) ly35 (by decide) rfl rfl (by decide) inT5 fl_X5_70 tyX5 tyX5_ok nmX5 rfl ⟨by decide, by decide⟩ (by decide +kernel) dX5_next_163 (fun μ67 e69 n68 => ?_)
              have h := h μ67 e69 n68
              refine x_goto (tgt := 223) dX5_next_166 (by decide) ?_
              exact x_vret h rfl dX5_next_223
      · have h := h.2 k24
        refine x_aload_n 1 rfl dX5_next_111 ?_
        refine x_iconst dX5_next_112 ?_
        refine x_putI (j := 10) ly35 (by decide) rfl rfl (by decide) inT5 fl_X5_70 tyX5 tyX5_ok nmX5 rfl ⟨by decide, by decide⟩ (by decide +kernel) dX5_next_113 (fun μ70 e72 n71 => ?_)
        have h := h μ70 e72 n71
        refine x_goto (tgt := 223) dX5_next_116 (by decide) ?_
        exact x_vret h rfl dX5_next_223
    · have h := h.2 k23
      refine x_aload_n 1 rfl dX5_next_97 ?_
      refine x_iconst dX5_next_98 ?_
      refine x_putI (j := 10) ly35 (by decide) rfl rfl (by decide) inT5 fl_X5_70 tyX5 tyX5_ok nmX5 rfl ⟨by decide, by decide⟩ (by decide +kernel) dX5_next_99 (fun μ73 e75 n74 => ?_)
      have h := h μ73 e75 n74
      refine x_goto (tgt := 223) dX5_next_102 (by decide) ?_
      exact x_vret h rfl dX5_next_223
  · have h := h.2 k22
    refine x_aload_n 1 rfl dX5_next_75 ?_
    refine x_aload_n 1 rfl dX5_next_76 ?_
    refine x_getI (j := 11) ly35 (by decide) rfl rfl (by decide) inT5 fl_X5_150 dX5_next_77 (fun r76 => ?_)
    refine x_putI (j := 12) ly35 (by decide) rfl rfl (by decide) inT5 fl_X5_60 tyX5 tyX5_ok nmX5 rfl r76 (by decide +kernel) dX5_next_80 (fun μ77 e79 n78 => ?_)
    have h := h μ77 e79 n78
    refine x_aload_n 1 rfl dX5_next_83 ?_
    refine x_iconst dX5_next_84 ?_
    refine x_putI (j := 10) ly35 (by decide) rfl rfl (by decide) inT5 fl_X5_70 tyX5 tyX5_ok nmX5 rfl ⟨by decide, by decide⟩ (by decide +kernel) dX5_next_85 (fun μ80 e82 n81 => ?_)
    have h := h μ80 e82 n81
    refine x_goto (tgt := 223) dX5_next_88 (by decide) ?_
    exact x_vret h rfl dX5_next_223
set_option maxRecDepth 100000 in
set_option maxHeartbeats 4000000 in
theorem xX5_next (x : xX)  (μ : xM) (Q : xM → Prop)  (h : tX5_next  μ Q) : xMet x 3 yX5_next cX5_next 2 none [.ref (x.2.2.1 + 35)] μ (xQv x Q) := by
  refine xMet_of (by decide +kernel) (Nat.le_of_ble_eq_true rfl) ?_
  show xW x (xRm 3, RX5, cX5_next, 2, none, fun _ _ => True) (xQv x Q) 0 [(0, .ref (x.2.2.1 + 35))] [] μ
  refine x_ran (fun n0 => ?_)
  have h := h n0 
  refine x_aload_n 0 rfl dX5_next_0 ?_
  refine x_aload_n 0 rfl dX5_next_1 ?_
  refine x_getI (j := 12) ly35 (by decide) rfl rfl (by decide) inT5 fl_X5_60 dX5_next_2 (fun r1 => ?_)
  refine x_putI (j := 11) ly35 (by decide) rfl rfl (by decide) inT5 fl_X5_150 tyX5 tyX5_ok nmX5 rfl r1 (by decide +kernel) dX5_next_5 (fun μ2 e4 n3 => ?_)
  have h := h μ2 e4 n3
  refine x_sub [0] rfl ?_
  refine x_loop0 ([(0, .ref (x.2.2.1 + 35))]) h (fun J8 μ5 hJ8 h n6 => ?_)
  refine x_aload_n 0 rfl dX5_next_8 ?_
  refine x_getI (j := 11) ly35 (by decide) rfl rfl (by decide) inT5 fl_X5_150 dX5_next_9 (fun r7 => ?_)
  refine x_aload_n 0 rfl dX5_next_12 ?_
  refine x_getI (j := 9) ly35 (by decide) rfl rfl (by decide) inT5 fl_X5_57 dX5_next_13 (fun r8 => ?_)
  refine x_icmpge (tgt := 45) r7 r8 dX5_next_16 (by decide) (fun k9 => ?_) (fun k9 => ?_)
  · have h := h.1 k9
    exact x_sub [0] rfl (xX5_next_b45 x μ5 Q   h)
  · have h := h.2 k9
    refine x_aload_n 0 rfl dX5_next_19 ?_
    refine x_aload_n 0 rfl dX5_next_20 ?_
    refine x_getI (j := 11) ly35 (by decide) rfl rfl (by decide) inT5 fl_X5_150 dX5_next_21 (fun r83 => ?_)
    refine x_callVi (As := [iV (μ5 35 11)]) (rest := []) cal_X5_byteAt ins_X5_byteAt sel_X5_byteAt ly35 (by decide) rfl (xX5_byteAt x (μ5 35 11) _ _ r83 h) rfl ml_X5_172 (xRoom (Nat.le_of_ble_eq_true rfl)) (Nat.le_of_ble_eq_true rfl) dX5_next_24 (fun r86 μ84 i87 n85 h => ?_)
    have h := h i87 n85
    refine x_bipush dX5_next_27 (by decide) ?_
    refine x_icmpne (tgt := 45) i87 ⟨by decide, by decide⟩ dX5_next_29 (by decide) (fun k88 => ?_) (fun k88 => ?_)
    · have h := h.1 k88
      exact x_sub [0] rfl (xX5_next_b45 x μ84 Q   h)
    · have h := h.2 k88
      refine x_aload_n 0 rfl dX5_next_32 ?_
      refine x_dup rfl dX5_next_33 ?_
      refine x_getI (j := 11) ly35 (by decide) rfl rfl (by decide) inT5 fl_X5_150 dX5_next_34 (fun r89 => ?_)
      refine x_iconst dX5_next_37 ?_
      refine x_iadd dX5_next_38 ?_
      obtain ⟨c90, h⟩ := h
      refine x_putI (j := 11) ly35 (by decide) rfl rfl (by decide) inT5 fl_X5_150 tyX5 tyX5_ok nmX5 rfl c90 (by decide +kernel) dX5_next_39 (fun μ91 e93 n92 => ?_)
      have h := h μ91 e93 n92
      refine x_goto (tgt := 8) dX5_next_42 (by decide) ?_
      exact x_sub [0] rfl (hJ8 _ h)
