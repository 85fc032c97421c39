set_option maxRecDepth 100000 in
set_option maxHeartbeats 4000000 in
theorem xX9_keep (x : xX) (o : Nat) (p1 : Int) (μ : xM) (Q : xM → Prop) (ho : isSurvey o) (hp1 : xIn p1) (h : tX9_keep o p1 μ Q) : xMet x 1 yX9_keep cX9_keep 3 none [.ref (x.2.2.1 + o), iV p1] μ (xQv x Q) := by
  refine xMet_of (by decide +kernel) (Nat.le_of_ble_eq_true rfl) ?_
  show xW x (xRm 1, RX9, cX9_keep, 3, none, fun _ _ => True) (xQv x Q) 0 [(0, .ref (x.2.2.1 + o)), (1, iV p1)] [] μ
  refine x_ran (fun n0 => ?_)
  have h := h n0 hp1
  refine x_iconst dX9_keep_0 ?_
  refine x_istore_n [(2, iV 0), (0, .ref (x.2.2.1 + o)), (1, iV p1)] dX9_keep_1 (show 2 < 3 by decide) rfl ?_
  refine x_sub [1, 2, 0] rfl ?_
  refine x_loop1 (fun l2_1 => [(0, .ref (x.2.2.1 + o)), (1, iV p1), (2, iV l2_1)]) h (fun J2 l2_1 μ2 hJ2 h n3 => ?_)
  refine x_iload_n 2 rfl dX9_keep_2 ?_
  refine x_iconst dX9_keep_3 ?_
  obtain ⟨c4, h⟩ := h
  refine x_icmpge (tgt := 35) c4 ⟨by decide, by decide⟩ dX9_keep_4 (by decide) (fun k5 => ?_) (fun k5 => ?_)
  · have h := h.1 k5
    exact x_vret h rfl dX9_keep_35
  · have h := h.2 k5
    refine x_aload_n 0 rfl dX9_keep_7 ?_
    refine x_getR (j := 10) (r := o + 4) ho.1 (by have := ho.2.1; omega) rfl rfl (by decide) inT9 fl_X9_21 dX9_keep_8 ?_
    refine x_iload_n 2 rfl dX9_keep_11 ?_
    refine x_iload_n 2 rfl dX9_keep_12 ?_
    refine x_iload_n 1 rfl dX9_keep_13 ?_
    refine x_icmpge (tgt := 26) c4 hp1 dX9_keep_14 (by decide) (fun k6 => ?_) (fun k6 => ?_)
    · have h := h.1 k6
      refine x_bipush dX9_keep_26 (by decide) ?_
      obtain ⟨c7, h⟩ := h
      refine x_iast ho.2.2.2.2.2 c7.1 c7.2 (xIb (n := 3) c7 (by decide)) ⟨by decide, by decide⟩ (by have := ho.2.1; omega) dX9_keep_28 (fun μ8 e10 n9 => ?_)
      have h := h μ8 e10 n9
      refine x_iinc 2 rfl [(2, iV (l2_1 + 1)), (0, .ref (x.2.2.1 + o)), (1, iV p1)] dX9_keep_29 (show 2 < 3 by decide) rfl ?_
      refine x_goto (tgt := 2) dX9_keep_32 (by decide) ?_
      exact x_sub [1, 2, 0] rfl (hJ2 _ _ h)
    · have h := h.2 k6
      refine x_aload_n 0 rfl dX9_keep_17 ?_
      refine x_getR (j := 9) (r := o + 3) ho.1 (by have := ho.2.1; omega) rfl rfl (by decide) inT9 fl_X9_18 dX9_keep_18 ?_
      refine x_iload_n 2 rfl dX9_keep_21 ?_
      obtain ⟨c11, h⟩ := h
      refine x_iald ho.2.2.2.2.1 c11.1 c11.2 (xIb (n := 3) c11 (by decide)) (by have := ho.2.1; omega) dX9_keep_22 (fun r12 => ?_)
      refine x_goto (tgt := 28) dX9_keep_23 (by decide) ?_
      refine x_iast ho.2.2.2.2.2 c11.1 c11.2 (xIb (n := 3) c11 (by decide)) r12 (by have := ho.2.1; omega) dX9_keep_28 (fun μ13 e15 n14 => ?_)
      have h := h μ13 e15 n14
      refine x_iinc 2 rfl [(2, iV (l2_1 + 1)), (0, .ref (x.2.2.1 + o)), (1, iV p1)] dX9_keep_29 (show 2 < 3 by decide) rfl ?_
      refine x_goto (tgt := 2) dX9_keep_32 (by decide) ?_
      exact x_sub [1, 2, 0] rfl (hJ2 _ _ h)
set_option maxRecDepth 100000 in
set_option maxHeartbeats 4000000 in
theorem xX9_judgeLack (x : xX) (o : Nat) (p1 : Int) (μ : xM) (Q : xM → Prop) (ho : isSurvey o) (hp1 : xIn p1) (h : tX9_judgeLack o p1 μ Q) : xMet x 2 yX9_judgeLack cX9_judgeLack 2 none [.ref (x.2.2.1 + o), iV p1] μ (xQv x Q) := by
  refine xMet_of (by decide +kernel) (Nat.le_of_ble_eq_true rfl) ?_
  show xW x (xRm 2, RX9, cX9_judgeLack, 2, none, fun _ _ => True) (xQv x Q) 0 [(0, .ref (x.2.2.1 + o)), (1, iV p1)] [] μ
  refine x_ran (fun n0 => ?_)
  have h := h n0 hp1
  refine x_aload_n 0 rfl dX9_judgeLack_0 ?_
  refine x_getI (j := 14) ho.1 (by have := ho.2.1; omega) rfl rfl (by decide) inT9 fl_X9_54 dX9_judgeLack_1 (fun r1 => ?_)
  refine x_aload_n 0 rfl dX9_judgeLack_4 ?_
  refine x_getI (j := 15) ho.1 (by have := ho.2.1; omega) rfl rfl (by decide) inT9 fl_X9_57 dX9_judgeLack_5 (fun r2 => ?_)
  refine x_isub dX9_judgeLack_8 ?_
  refine x_aload_n 0 rfl dX9_judgeLack_9 ?_
  refine x_getI (j := 13) ho.1 (by have := ho.2.1; omega) rfl rfl (by decide) inT9 fl_X9_34 dX9_judgeLack_10 (fun r3 => ?_)
  obtain ⟨c4, h⟩ := h
  refine x_icmpne (tgt := 50) c4 r3 dX9_judgeLack_13 (by decide) (fun k5 => ?_) (fun k5 => ?_)
  · have h := h.1 k5
    exact x_vret h rfl dX9_judgeLack_50
  · have h := h.2 k5
    refine x_aload_n 0 rfl dX9_judgeLack_16 ?_
    refine x_getI (j := 15) ho.1 (by have := ho.2.1; omega) rfl rfl (by decide) inT9 fl_X9_57 dX9_judgeLack_17 (fun r6 => ?_)
    refine x_aload_n 0 rfl dX9_judgeLack_20 ?_
    refine x_getI (j := 16) ho.1 (by have := ho.2.1; omega) rfl rfl (by decide) inT9 fl_X9_67 dX9_judgeLack_21 (fun r7 => ?_)
    refine x_icmpgt (tgt := 50) r6 r7 dX9_judgeLack_24 (by decide) (fun k8 => ?_) (fun k8 => ?_)
    · have h := h.1 k8
      exact x_vret h rfl dX9_judgeLack_50
    · have h := h.2 k8
      refine x_aload_n 0 rfl dX9_judgeLack_27 ?_
      refine x_aload_n 0 rfl dX9_judgeLack_28 ?_
      refine x_getI (j := 15) ho.1 (by have := ho.2.1; omega) rfl rfl (by decide) inT9 fl_X9_57 dX9_judgeLack_29 (fun r9 => ?_)
      refine x_putI (j := 5) ho.1 (by have := ho.2.1; omega) rfl rfl (by decide) inT9 fl_X9_89 tyX9 tyX9_ok nmX9 rfl r9 (by decide +kernel) dX9_judgeLack_32 (fun μ10 e12 n11 => ?_)
      have h := h μ10 e12 n11
      refine x_aload_n 0 rfl dX9_judgeLack_35 ?_
      refine x_aload_n 0 rfl dX9_judgeLack_36 ?_
      refine x_getI (j := 15) ho.1 (by have := ho.2.1; omega) rfl rfl (by decide) inT9 fl_X9_57 dX9_judgeLack_37 (fun r13 => ?_)
      refine x_iconst dX9_judgeLack_40 ?_
      refine x_isub dX9_judgeLack_41 ?_
      obtain ⟨c14, h⟩ := h
      refine x_putI (j := 16) ho.1 (by have := ho.2.1; omega) rfl rfl (by decide) inT9 fl_X9_67 tyX9 tyX9_ok nmX9 rfl c14 (by decide +kernel) dX9_judgeLack_42 (fun μ15 e17 n16 => ?_)
      have h := h μ15 e17 n16
      refine x_aload_n 0 rfl dX9_judgeLack_45 ?_
      refine x_iload_n 1 rfl dX9_judgeLack_46 ?_
      refine x_callVv (As := [iV p1]) (rest := []) cal_X9_keep ins_X9_keep sel_X9_keep ho.1 (by have := ho.2.1; omega) rfl (xX9_keep x o p1 _ _ ho hp1 h) rfl ml_X9_116 (xRoom (Nat.le_of_ble_eq_true rfl)) (Nat.le_of_ble_eq_true rfl) dX9_judgeLack_47 (fun μ18 n19 h => ?_)
      have h := h n19
      exact x_vret h rfl dX9_judgeLack_50
set_option maxRecDepth 100000 in
set_option maxHeartbeats 4000000 in
theorem xX9_judgePlan_b38 (x : xX) (o : Nat) (p1 : Int)  (μ : xM) (Q : xM → Prop)  (ho : isSurvey o) (hp1 : xIn p1)  (h : tX9_judgePlan_b38 o p1  μ Q ) : xW x (xRm 5, RX9, cX9_judgePlan, 2, none, fun _ _ => True) (xQv x Q) 38 [(0, .ref (x.2.2.1 + o)), (1, iV p1)] [] μ := by
  refine x_ran (fun n0 => ?_)
  have h := h n0
  refine x_aload_n 0 rfl dX9_judgePlan_38 ?_
  refine x_getI (j := 14) ho.1 (by have := ho.2.1; omega) rfl rfl (by decide) inT9 fl_X9_54 dX9_judgePlan_39 (fun r9 => ?_)
  refine x_aload_n 0 rfl dX9_judgePlan_42 ?_
  refine x_getI (j := 1) ho.1 (by have := ho.2.1; omega) rfl rfl (by decide) inT9 fl_X9_70 dX9_judgePlan_43 (fun r10 => ?_)
  refine x_icmpgt (tgt := 71) r9 r10 dX9_judgePlan_46 (by decide) (fun k11 => ?_) (fun k11 => ?_)
  · have h := h.1 k11
    refine x_aload_n 0 rfl dX9_judgePlan_71 ?_
    refine x_aload_n 0 rfl dX9_judgePlan_72 ?_
    refine x_getI (j := 14) ho.1 (by have := ho.2.1; omega) rfl rfl (by decide) inT9 fl_X9_54 dX9_judgePlan_73 (fun r12 => ?_)
    refine x_putI (j := 1) ho.1 (by have := ho.2.1; omega) rfl rfl (by decide) inT9 fl_X9_70 tyX9 tyX9_ok nmX9 rfl r12 (by decide +kernel) dX9_judgePlan_76 (fun μ13 e15 n14 => ?_)
    have h := h μ13 e15 n14
    refine x_aload_n 0 rfl dX9_judgePlan_79 ?_
    refine x_aload_n 0 rfl dX9_judgePlan_80 ?_
    refine x_getI (j := 17) ho.1 (by have := ho.2.1; omega) rfl rfl (by decide) inT9 fl_X9_60 dX9_judgePlan_81 (fun r16 => ?_)
    refine x_putI (j := 2) ho.1 (by have := ho.2.1; omega) rfl rfl (by decide) inT9 fl_X9_73 tyX9 tyX9_ok nmX9 rfl r16 (by decide +kernel) dX9_judgePlan_84 (fun μ17 e19 n18 => ?_)
    have h := h μ17 e19 n18
    refine x_aload_n 0 rfl dX9_judgePlan_87 ?_
    refine x_iload_n 1 rfl dX9_judgePlan_88 ?_
    refine x_callVv (As := [iV p1]) (rest := []) cal_X9_keep ins_X9_keep sel_X9_keep ho.1 (by have := ho.2.1; omega) rfl (xX9_keep x o p1 _ _ ho hp1 h) rfl ml_X9_116 (xRoom (Nat.le_of_ble_eq_true rfl)) (Nat.le_of_ble_eq_true rfl) dX9_judgePlan_89 (fun μ20 n21 h => ?_)
    have h := h n21
    exact x_vret h rfl dX9_judgePlan_92
  · have h := h.2 k11
    refine x_aload_n 0 rfl dX9_judgePlan_49 ?_
    refine x_getI (j := 14) ho.1 (by have := ho.2.1; omega) rfl rfl (by decide) inT9 fl_X9_54 dX9_judgePlan_50 (fun r22 => ?_)
    refine x_aload_n 0 rfl dX9_judgePlan_53 ?_
    refine x_getI (j := 1) ho.1 (by have := ho.2.1; omega) rfl rfl (by decide) inT9 fl_X9_70 dX9_judgePlan_54 (fun r23 => ?_)
    refine x_icmpne (tgt := 92) r22 r23 dX9_judgePlan_57 (by decide) (fun k24 => ?_) (fun k24 => ?_)
    · have h := h.1 k24
      exact x_vret h rfl dX9_judgePlan_92
    · have h := h.2 k24
      refine x_aload_n 0 rfl dX9_judgePlan_60 ?_
      refine x_getI (j := 17) ho.1 (by have := ho.2.1; omega) rfl rfl (by decide) inT9 fl_X9_60 dX9_judgePlan_61 (fun r25 => ?_)
      refine x_aload_n 0 rfl dX9_judgePlan_64 ?_
      refine x_getI (j := 2) ho.1 (by have := ho.2.1; omega) rfl rfl (by decide) inT9 fl_X9_73 dX9_judgePlan_65 (fun r26 => ?_)
      refine x_icmple (tgt := 92) r25 r26 dX9_judgePlan_68 (by decide) (fun k27 => ?_) (fun k27 => ?_)
      · have h := h.1 k27
        exact x_vret h rfl dX9_judgePlan_92
      · have h := h.2 k27
        refine x_aload_n 0 rfl dX9_judgePlan_71 ?_
        refine x_aload_n 0 rfl dX9_judgePlan_72 ?_
        refine x_getI (j := 14) ho.1 (by have := ho.2.1; omega) rfl rfl (by decide) inT9 fl_X9_54 dX9_judgePlan_73 (fun r28 => ?_)
        refine x_putI (j := 1) ho.1 (by have := ho.2.1; omega) rfl rfl (by decide) inT9 fl_X9_70 tyX9 tyX9_ok nmX9 rfl r28 (by decide +kernel) dX9_judgePlan_76 (fun μ29 e31 n30 => ?_)
        have h := h μ29 e31 n30
        refine x_aload_n 0 rfl dX9_judgePlan_79 ?_
        refine x_aload_n 0 rfl dX9_judgePlan_80 ?_
        refine x_getI (j := 17) ho.1 (by have := ho.2.1; omega) rfl rfl (by decide) inT9 fl_X9_60 dX9_judgePlan_81 (fun r32 => ?_)
        refine x_putI (j := 2) ho.1 (by have := ho.2.1; omega) rfl rfl (by decide) inT9 fl_X9_73 tyX9 tyX9_ok nmX9 rfl r32 (by decide +kernel) dX9_judgePlan_84 (fun μ33 e35 n34 => ?_)
        have h := h μ33 e35 n34
        refine x_aload_n 0 rfl dX9_judgePlan_87 ?_
        refine x_iload_n 1 rfl dX9_judgePlan_88 ?_
        refine x_callVv (As := [iV p1]) (rest := []) cal_X9_keep ins_X9_keep sel_X9_keep ho.1 (by have := ho.2.1; omega) rfl (xX9_keep x o p1 _ _ ho hp1 h) rfl ml_X9_116 (xRoom (Nat.le_of_ble_eq_true rfl)) (Nat.le_of_ble_eq_true rfl) dX9_judgePlan_89 (fun μ36 n37 h => ?_)
        have h := h n37
        exact x_vret h rfl dX9_judgePlan_92
set_option maxRecDepth 100000 in
set_option maxHeartbeats 4000000 in
theorem xX9_judgePlan (x : xX) (o : Nat) (p1 : Int) (μ : xM) (Q : xM → Prop) (ho : isSurvey o) (hp1 : xIn p1) (h : tX9_judgePlan o p1 μ Q) : xMet x 5 yX9_judgePlan cX9_judgePlan 2 none [.ref (x.2.2.1 + o), iV p1] μ (xQv x Q) := by
  refine xMet_of (by decide +kernel) (Nat.le_of_ble_eq_true rfl) ?_
  show xW x (xRm 5, RX9, cX9_judgePlan, 2, none, fun _ _ => True) (xQv x Q) 0 [(0, .ref (x.2.2.1 + o)), (1, iV p1)] [] μ
  refine x_ran (fun n0 => ?_)
  have h := h n0 hp1
  refine x_aload_n 0 rfl dX9_judgePlan_0 ?_
  refine x_aload_n 0 rfl dX9_judgePlan_1 ?_
  refine x_getI (j := 3) ho.1 (by have := ho.2.1; omega) rfl rfl (by decide) inT9 fl_X9_76 dX9_judgePlan_2 (fun r1 => ?_)
  refine x_aload_n 0 rfl dX9_judgePlan_5 ?_
  refine x_getI (j := 17) ho.1 (by have := ho.2.1; omega) rfl rfl (by decide) inT9 fl_X9_60 dX9_judgePlan_6 (fun r2 => ?_)
  refine x_max r1 r2 ml_X9_98 (xRoom1 (by decide)) (Nat.le_of_ble_eq_true rfl) dX9_judgePlan_9 ?_
  refine x_putI (j := 3) ho.1 (by have := ho.2.1; omega) rfl rfl (by decide) inT9 fl_X9_76 tyX9 tyX9_ok nmX9 rfl (xmax_in r1 r2) (by decide +kernel) dX9_judgePlan_12 (fun μ3 e5 n4 => ?_)
  have h := h μ3 e5 n4
  refine x_aload_n 0 rfl dX9_judgePlan_15 ?_
  refine x_getI (j := 14) ho.1 (by have := ho.2.1; omega) rfl rfl (by decide) inT9 fl_X9_54 dX9_judgePlan_16 (fun r6 => ?_)
  refine x_aload_n 0 rfl dX9_judgePlan_19 ?_
  refine x_getI (j := 13) ho.1 (by have := ho.2.1; omega) rfl rfl (by decide) inT9 fl_X9_34 dX9_judgePlan_20 (fun r7 => ?_)
  refine x_icmpne (tgt := 38) r6 r7 dX9_judgePlan_23 (by decide) (fun k8 => ?_) (fun k8 => ?_)
  · have h := h.1 k8
    exact x_sub [0, 1] rfl (xX9_judgePlan_b38 x o p1 μ3 Q  ho hp1 h)
  · have h := h.2 k8
    refine x_aload_n 0 rfl dX9_judgePlan_26 ?_
    refine x_aload_n 0 rfl dX9_judgePlan_27 ?_
    refine x_getI (j := 4) ho.1 (by have := ho.2.1; omega) rfl rfl (by decide) inT9 fl_X9_79 dX9_judgePlan_28 (fun r38 => ?_)
    refine x_iload_n 1 rfl dX9_judgePlan_31 ?_
    refine x_min r38 hp1 ml_X9_113 (xRoom1 (by decide)) (Nat.le_of_ble_eq_true rfl) dX9_judgePlan_32 ?_
    refine x_putI (j := 4) ho.1 (by have := ho.2.1; omega) rfl rfl (by decide) inT9 fl_X9_79 tyX9 tyX9_ok nmX9 rfl (xmin_in r38 hp1) (by decide +kernel) dX9_judgePlan_35 (fun μ39 e41 n40 => ?_)
    have h := h μ39 e41 n40
    exact x_sub [0, 1] rfl (xX9_judgePlan_b38 x o p1 μ39 Q  ho hp1 h)
set_option maxRecDepth 100000 in
set_option maxHeartbeats 4000000 in
theorem xX9_spread_body (x : xX) (F : Nat → Int → Int → xM → (xM → Prop) → Prop) (o : Nat) (p1 : Int) (p2 : Int) (μ : xM) (Q : xM → Prop) (ho : isSurvey o) (hp1 : xIn p1) (hp2 : xIn p2) (dF : Nat) (hF : ∀ (g : Nat) (q0 q1 : Int) (μ : xM) (Q : xM → Prop), isSurvey g → xIn q0 → xIn q1 → F g q0 q1 μ Q → xMet x dF yX9_spread cX9_spread 4 none [.ref (x.2.2.1 + g), iV q0, iV q1] μ (xQv x Q)) (dM : Nat) (hdM : 6 ≤ dM) (hdF : dF + 2 ≤ dM) (h : tX9_spread_body F o p1 p2 μ Q) : xMet x dM yX9_spread cX9_spread 4 none [.ref (x.2.2.1 + o), iV p1, iV p2] μ (xQv x Q) := by
  refine xMet_of (by decide +kernel) (Nat.le_of_ble_eq_true rfl) ?_
  show xW x (xRm dM, RX9, cX9_spread, 4, none, fun _ _ => True) (xQv x Q) 0 [(0, .ref (x.2.2.1 + o)), (1, iV p1), (2, iV p2)] [] μ
  refine x_ran (fun n0 => ?_)
  have h := h n0 hp1 hp2
  refine x_iload_n 1 rfl dX9_spread_0 ?_
  refine x_iflt (tgt := 97) hp1  dX9_spread_1 (by decide) (fun k1 => ?_) (fun k1 => ?_)
  · have h := h.1 k1
    refine x_aload_n 0 rfl dX9_spread_97 ?_
    refine x_getI (j := 11) ho.1 (by have := ho.2.1; omega) rfl rfl (by decide) inT9 fl_X9_63 dX9_spread_98 (fun r2 => ?_)
    refine x_ifeq (tgt := 112) r2  dX9_spread_101 (by decide) (fun k3 => ?_) (fun k3 => ?_)
    · have h := h.1 k3
      refine x_aload_n 0 rfl dX9_spread_112 ?_
      refine x_iload_n 1 rfl dX9_spread_113 ?_
      refine x_callVv (As := [iV p1]) (rest := []) cal_X9_judgePlan ins_X9_judgePlan sel_X9_judgePlan ho.1 (by have := ho.2.1; omega) rfl (xX9_judgePlan x o p1 _ _ ho hp1 h) rfl ml_X9_110 (xRoom (show 5 + 1 ≤ dM by omega)) (Nat.le_of_ble_eq_true rfl) dX9_spread_114 (fun μ4 n5 h => ?_)
      have h := h n5
      exact x_vret h rfl dX9_spread_117
    · have h := h.2 k3
      refine x_aload_n 0 rfl dX9_spread_104 ?_
      refine x_iload_n 1 rfl dX9_spread_105 ?_
      refine x_callVv (As := [iV p1]) (rest := []) cal_X9_judgeLack ins_X9_judgeLack sel_X9_judgeLack ho.1 (by have := ho.2.1; omega) rfl (xX9_judgeLack x o p1 _ _ ho hp1 h) rfl ml_X9_107 (xRoom (show 2 + 1 ≤ dM by omega)) (Nat.le_of_ble_eq_true rfl) dX9_spread_106 (fun μ6 n7 h => ?_)
      have h := h n7
      refine x_goto (tgt := 117) dX9_spread_109 (by decide) ?_
      exact x_vret h rfl dX9_spread_117
  · have h := h.2 k1
    refine x_iload_n 1 rfl dX9_spread_4 ?_
    refine x_aload_n 0 rfl dX9_spread_5 ?_
    refine x_getR (j := 6) (r := 39) ho.1 (by have := ho.2.1; omega) rfl rfl (by decide) inT9 fl_X9_24 dX9_spread_6 ?_
    refine x_getI (j := 0) ly39 (by decide) rfl rfl (by decide) inT2 fl_X9_95 dX9_spread_9 (fun r8 => ?_)
    refine x_icmpge (tgt := 97) hp1 r8 dX9_spread_12 (by decide) (fun k9 => ?_) (fun k9 => ?_)
    · have h := h.1 k9
      refine x_aload_n 0 rfl dX9_spread_97 ?_
      refine x_getI (j := 11) ho.1 (by have := ho.2.1; omega) rfl rfl (by decide) inT9 fl_X9_63 dX9_spread_98 (fun r10 => ?_)
      refine x_ifeq (tgt := 112) r10  dX9_spread_101 (by decide) (fun k11 => ?_) (fun k11 => ?_)
      · have h := h.1 k11
        refine x_aload_n 0 rfl dX9_spread_112 ?_
        refine x_iload_n 1 rfl dX9_spread_113 ?_
        refine x_callVv (As := [iV p1]) (rest := []) cal_X9_judgePlan ins_X9_judgePlan sel_X9_judgePlan ho.1 (by have := ho.2.1; omega) rfl (xX9_judgePlan x o p1 _ _ ho hp1 h) rfl ml_X9_110 (xRoom (show 5 + 1 ≤ dM by omega)) (Nat.le_of_ble_eq_true rfl) dX9_spread_114 (fun μ12 n13 h => ?_)
        have h := h n13
        exact x_vret h rfl dX9_spread_117
      · have h := h.2 k11
        refine x_aload_n 0 rfl dX9_spread_104 ?_
        refine x_iload_n 1 rfl dX9_spread_105 ?_
        refine x_callVv (As := [iV p1]) (rest := []) cal_X9_judgeLack ins_X9_judgeLack sel_X9_judgeLack ho.1 (by have := ho.2.1; omega) rfl (xX9_judgeLack x o p1 _ _ ho hp1 h) rfl ml_X9_107 (xRoom (show 2 + 1 ≤ dM by omega)) (Nat.le_of_ble_eq_true rfl) dX9_spread_106 (fun μ14 n15 h => ?_)
        have h := h n15
        refine x_goto (tgt := 117) dX9_spread_109 (by decide) ?_
        exact x_vret h rfl dX9_spread_117
    · have h := h.2 k9
      refine x_iload_n 1 rfl dX9_spread_15 ?_
      refine x_iconst dX9_spread_16 ?_
      refine x_icmpge (tgt := 97) hp1 ⟨by decide, by decide⟩ dX9_spread_17 (by decide) (fun k16 => ?_) (fun k16 => ?_)
      · have h := h.1 k16
        refine x_aload_n 0 rfl dX9_spread_97 ?_
        refine x_getI (j := 11) ho.1 (by have := ho.2.1; omega) rfl rfl (by decide) inT9 fl_X9_63 dX9_spread_98 (fun r17 => ?_)
        refine x_ifeq (tgt := 112) r17  dX9_spread_101 (by decide) (fun k18 => ?_) (fun k18 => ?_)
        · have h := h.1 k18
          refine x_aload_n 0 rfl dX9_spread_112 ?_
          refine x_iload_n 1 rfl dX9_spread_113 ?_
          refine x_callVv (As := [iV p1]) (rest := []) cal_X9_judgePlan ins_X9_judgePlan sel_X9_judgePlan ho.1 (by have := ho.2.1; omega) rfl (xX9_judgePlan x o p1 _ _ ho hp1 h) rfl ml_X9_110 (xRoom (show 5 + 1 ≤ dM by omega)) (Nat.le_of_ble_eq_true rfl) dX9_spread_114 (fun μ19 n20 h => ?_)
          have h := h n20
          exact x_vret h rfl dX9_spread_117
        · have h := h.2 k18
          refine x_aload_n 0 rfl dX9_spread_104 ?_
          refine x_iload_n 1 rfl dX9_spread_105 ?_
          refine x_callVv (As := [iV p1]) (rest := []) cal_X9_judgeLack ins_X9_judgeLack sel_X9_judgeLack ho.1 (by have := ho.2.1; omega) rfl (xX9_judgeLack x o p1 _ _ ho hp1 h) rfl ml_X9_107 (xRoom (show 2 + 1 ≤ dM by omega)) (Nat.le_of_ble_eq_true rfl) dX9_spread_106 (fun μ21 n22 h => ?_)
          have h := h n22
          refine x_goto (tgt := 117) dX9_spread_109 (by decide) ?_
          exact x_vret h rfl dX9_spread_117
      · have h := h.2 k16
        refine x_iload_n 2 rfl dX9_spread_20 ?_
        refine x_iconst dX9_spread_21 ?_
        refine x_max hp2 ⟨by decide, by decide⟩ ml_X9_98 (xRoom1 (show 1 ≤ dM by omega)) (Nat.le_of_ble_eq_true rfl) dX9_spread_22 ?_
        refine x_istore_n [(3, iV (max p2 0)), (0, .ref (x.2.2.1 + o)), (1, iV p1), (2, iV p2)] dX9_spread_25 (show 3 < 4 by decide) rfl ?_
        refine x_sub [1, 2, 0] rfl ?_
        refine x_loop1 (fun l3_23 => [(0, .ref (x.2.2.1 + o)), (1, iV p1), (3, iV l3_23)]) h (fun J26 l3_23 μ24 hJ26 h n25 => ?_)
        refine x_iload_n 2 rfl dX9_spread_26 ?_
        refine x_aload_n 0 rfl dX9_spread_27 ?_
        refine x_getI (j := 12) ho.1 (by have := ho.2.1; omega) rfl rfl (by decide) inT9 fl_X9_51 dX9_spread_28 (fun r26 => ?_)
        obtain ⟨c27, h⟩ := h
        refine x_icmpge (tgt := 97) c27 r26 dX9_spread_31 (by decide) (fun k28 => ?_) (fun k28 => ?_)
        · have h := h.1 k28
          refine x_aload_n 0 rfl dX9_spread_97 ?_
          refine x_getI (j := 11) ho.1 (by have := ho.2.1; omega) rfl rfl (by decide) inT9 fl_X9_63 dX9_spread_98 (fun r29 => ?_)
          refine x_ifeq (tgt := 112) r29  dX9_spread_101 (by decide) (fun k30 => ?_) (fun k30 => ?_)
          · have h := h.1 k30
            refine x_aload_n 0 rfl dX9_spread_112 ?_
            refine x_iload_n 1 rfl dX9_spread_113 ?_
            refine x_callVv (As := [iV p1]) (rest := []) cal_X9_judgePlan ins_X9_judgePlan sel_X9_judgePlan ho.1 (by have := ho.2.1; omega) rfl (xX9_judgePlan x o p1 _ _ ho hp1 h) rfl ml_X9_110 (xRoom (show 5 + 1 ≤ dM by omega)) (Nat.le_of_ble_eq_true rfl) dX9_spread_114 (fun μ31 n32 h => ?_)
            have h := h n32
            exact x_vret h rfl dX9_spread_117
          · have h := h.2 k30
            refine x_aload_n 0 rfl dX9_spread_104 ?_
            refine x_iload_n 1 rfl dX9_spread_105 ?_
            refine x_callVv (As := [iV p1]) (rest := []) cal_X9_judgeLack ins_X9_judgeLack sel_X9_judgeLack ho.1 (by have := ho.2.1; omega) rfl (xX9_judgeLack x o p1 _ _ ho hp1 h) rfl ml_X9_107 (xRoom (show 2 + 1 ≤ dM by omega)) (Nat.le_of_ble_eq_true rfl) dX9_spread_106 (fun μ33 n34 h => ?_)
            have h := h n34
            refine x_goto (tgt := 117) dX9_spread_109 (by decide) ?_
            exact x_vret h rfl dX9_spread_117
        · have h := h.2 k28
          refine x_iload_n 2 rfl dX9_spread_34 ?_
          refine x_bipush dX9_spread_35 (by decide) ?_
          refine x_icmpge (tgt := 97) c27 ⟨by decide, by decide⟩ dX9_spread_37 (by decide) (fun k35 => ?_) (fun k35 => ?_)
          · have h := h.1 k35
            refine x_aload_n 0 rfl dX9_spread_97 ?_
            refine x_getI (j := 11) ho.1 (by have := ho.2.1; omega) rfl rfl (by decide) inT9 fl_X9_63 dX9_spread_98 (fun r36 => ?_)
            refine x_ifeq (tgt := 112) r36  dX9_spread_101 (by decide) (fun k37 => ?_) (fun k37 => ?_)
            · have h := h.1 k37
              refine x_aload_n 0 rfl dX9_spread_112 ?_
              refine x_iload_n 1 rfl dX9_spread_113 ?_
              refine x_callVv (As := [iV p1]) (rest := []) cal_X9_judgePlan ins_X9_judgePlan sel_X9_judgePlan ho.1 (by have := ho.2.1; omega) rfl (xX9_judgePlan x o p1 _ _ ho hp1 h) rfl ml_X9_110 (xRoom (show 5 + 1 ≤ dM by omega)) (Nat.le_of_ble_eq_true rfl) dX9_spread_114 (fun μ38 n39 h => ?_)
              have h := h n39
              exact x_vret h rfl dX9_spread_117
            · have h := h.2 k37
              refine x_aload_n 0 rfl dX9_spread_104 ?_
              refine x_iload_n 1 rfl dX9_spread_105 ?_
              refine x_callVv (As := [iV p1]) (rest := []) cal_X9_judgeLack ins_X9_judgeLack sel_X9_judgeLack ho.1 (by have := ho.2.1; omega) rfl (xX9_judgeLack x o p1 _ _ ho hp1 h) rfl ml_X9_107 (xRoom (show 2 + 1 ≤ dM by omega)) (Nat.le_of_ble_eq_true rfl) dX9_spread_106 (fun μ40 n41 h => ?_)
              have h := h n41
              refine x_goto (tgt := 117) dX9_spread_109 (by decide) ?_
              exact x_vret h rfl dX9_spread_117
          · have h := h.2 k35
            refine x_aload_n 0 rfl dX9_spread_40 ?_
            refine x_getR (j := 9) (r := o + 3) ho.1 (by have := ho.2.1; omega) rfl rfl (by decide) inT9 fl_X9_18 dX9_spread_41 ?_
            refine x_iload_n 1 rfl dX9_spread_44 ?_
            refine x_aload_n 0 rfl dX9_spread_45 ?_
            refine x_getR (j := 8) (r := o + 2) ho.1 (by have := ho.2.1; omega) rfl rfl (by decide) inT9 fl_X9_15 dX9_spread_46 ?_
            refine x_iload_n 2 rfl dX9_spread_49 ?_
            obtain ⟨c42, h⟩ := h
            refine x_iald ho.2.2.2.1 c42.1 c42.2 (xIb (n := 24) c42 (by decide)) (by have := ho.2.1; omega) dX9_spread_50 (fun r43 => ?_)
            obtain ⟨c44, h⟩ := h
            refine x_iast ho.2.2.2.2.1 c44.1 c44.2 hp1 r43 (by have := ho.2.1; omega) dX9_spread_51 (fun μ45 e47 n46 => ?_)
            have h := h μ45 e47 n46
            refine x_aload_n 0 rfl dX9_spread_52 ?_
            refine x_aload_n 0 rfl dX9_spread_53 ?_
            refine x_getR (j := 8) (r := o + 2) ho.1 (by have := ho.2.1; omega) rfl rfl (by decide) inT9 fl_X9_15 dX9_spread_54 ?_
            refine x_iload_n 2 rfl dX9_spread_57 ?_
            refine x_iald ho.2.2.2.1 c42.1 c42.2 (xIb (n := 24) c42 (by decide)) (by have := ho.2.1; omega) dX9_spread_58 (fun r48 => ?_)
            refine x_callVv (As := [iV (μ45 (o + 2) l3_23.toNat)]) (rest := []) cal_X9_take ins_X9_take sel_X9_take ho.1 (by have := ho.2.1; omega) rfl (xX9_take x o (μ45 (o + 2) l3_23.toNat) _ _ ho r48 h) rfl ml_X9_92 (xRoom (show 3 + 1 ≤ dM by omega)) (Nat.le_of_ble_eq_true rfl) dX9_spread_59 (fun μ49 n50 h => ?_)
            have h := h n50
            refine x_aload_n 0 rfl dX9_spread_62 ?_
            refine x_getI (j := 15) ho.1 (by have := ho.2.1; omega) rfl rfl (by decide) inT9 fl_X9_57 dX9_spread_63 (fun r51 => ?_)
            refine x_aload_n 0 rfl dX9_spread_66 ?_
            refine x_getI (j := 16) ho.1 (by have := ho.2.1; omega) rfl rfl (by decide) inT9 fl_X9_67 dX9_spread_67 (fun r52 => ?_)
            refine x_icmpgt (tgt := 81) r51 r52 dX9_spread_70 (by decide) (fun k53 => ?_) (fun k53 => ?_)
            · have h := h.1 k53
              refine x_aload_n 0 rfl dX9_spread_81 ?_
              refine x_aload_n 0 rfl dX9_spread_82 ?_
              refine x_getR (j := 8) (r := o + 2) ho.1 (by have := ho.2.1; omega) rfl rfl (by decide) inT9 fl_X9_15 dX9_spread_83 ?_
              refine x_iload_n 2 rfl dX9_spread_86 ?_
              refine x_iald ho.2.2.2.1 c42.1 c42.2 (xIb (n := 24) c42 (by decide)) (by have := ho.2.1; omega) dX9_spread_87 (fun r54 => ?_)
              refine x_callVv (As := [iV (μ49 (o + 2) l3_23.toNat)]) (rest := []) cal_X9_giveBack ins_X9_giveBack sel_X9_giveBack ho.1 (by have := ho.2.1; omega) rfl (xX9_giveBack x o (μ49 (o + 2) l3_23.toNat) _ _ ho r54 h) rfl ml_X9_104 (xRoom (show 3 + 1 ≤ dM by omega)) (Nat.le_of_ble_eq_true rfl) dX9_spread_88 (fun μ55 n56 h => ?_)
              have h := h n56
              refine x_iinc 2 rfl [(3, iV (l3_23 + 1)), (0, .ref (x.2.2.1 + o)), (1, iV p1)] dX9_spread_91 (show 3 < 4 by decide) rfl ?_
              refine x_goto (tgt := 26) dX9_spread_94 (by decide) ?_
              exact x_sub [1, 2, 0] rfl (hJ26 _ _ h)
            · have h := h.2 k53
              refine x_aload_n 0 rfl dX9_spread_73 ?_
              refine x_iload_n 1 rfl dX9_spread_74 ?_
              refine x_iconst dX9_spread_75 ?_
              refine x_iadd dX9_spread_76 ?_
              refine x_iload_n 2 rfl dX9_spread_77 ?_
              obtain ⟨c57, h⟩ := h
              refine x_callVv (As := [iV (p1 + 1), iV l3_23]) (rest := []) cal_X9_spread ins_X9_spread sel_X9_spread ho.1 (by have := ho.2.1; omega) rfl (hF o (p1 + 1) l3_23 _ _ ho c57 c27 h) rfl ml_X9_82 (xRoom (show dF + 1 ≤ dM by omega)) (Nat.le_of_ble_eq_true rfl) dX9_spread_78 (fun μ58 n59 h => ?_)
              have h := h n59
              refine x_aload_n 0 rfl dX9_spread_81 ?_
              refine x_aload_n 0 rfl dX9_spread_82 ?_
              refine x_getR (j := 8) (r := o + 2) ho.1 (by have := ho.2.1; omega) rfl rfl (by decide) inT9 fl_X9_15 dX9_spread_83 ?_
              refine x_iload_n 2 rfl dX9_spread_86 ?_
              refine x_iald ho.2.2.2.1 c42.1 c42.2 (xIb (n := 24) c42 (by decide)) (by have := ho.2.1; omega) dX9_spread_87 (fun r60 => ?_)
              refine x_callVv (As := [iV (μ58 (o + 2) l3_23.toNat)]) (rest := []) cal_X9_giveBack ins_X9_giveBack sel_X9_giveBack ho.1 (by have := ho.2.1; omega) rfl (xX9_giveBack x o (μ58 (o + 2) l3_23.toNat) _ _ ho r60 h) rfl ml_X9_104 (xRoom (show 3 + 1 ≤ dM by omega)) (Nat.le_of_ble_eq_true rfl) dX9_spread_88 (fun μ61 n62 h => ?_)
              have h := h n62
              refine x_iinc 2 rfl [(3, iV (l3_23 + 1)), (0, .ref (x.2.2.1 + o)), (1, iV p1)] dX9_spread_91 (show 3 < 4 by decide) rfl ?_
              refine x_goto (tgt := 26) dX9_spread_94 (by decide) ?_
              exact x_sub [1, 2, 0] rfl (hJ26 _ _ h)
theorem xX9_spread (x : xX) : ∀ (n : Nat) (o : Nat) (p1 : Int) (p2 : Int) (μ : xM) (Q : xM → Prop) (ho : isSurvey o) (hp1 : xIn p1) (hp2 : xIn p2) (h : tX9_spread n o p1 p2 μ Q), xMet x (6 + 2 * n) yX9_spread cX9_spread 4 none [.ref (x.2.2.1 + o), iV p1, iV p2] μ (xQv x Q)
  | 0, _, _, _, _, _, _, _, _, h => h.elim
  | n + 1, o, p1, p2, μ, Q, ho, hp1, hp2, h => xX9_spread_body x (tX9_spread n) o p1 p2 μ Q ho hp1 hp2 (6 + 2 * n) (fun o1 p11 p21 μ Q ho1 hp11 hp21 h => xX9_spread x n o1 p11 p21 μ Q ho1 hp11 hp21 h) (6 + 2 * (n + 1)) (by omega) (by omega) h
set_option maxRecDepth 100000 in
set_option maxHeartbeats 4000000 in
theorem xX9_findPlans (x : xX) (o : Nat) (μ : xM) (Q : xM → Prop) (ho : isSurvey o) (h : tX9_findPlans o μ Q) : xMet x 19 yX9_findPlans cX9_findPlans 1 none [.ref (x.2.2.1 + o)] μ (xQv x Q) := by
  refine xMet_of (by decide +kernel) (Nat.le_of_ble_eq_true rfl) ?_
  show xW x (xRm 19, RX9, cX9_findPlans, 1, none, fun _ _ => True) (xQv x Q) 0 [(0, .ref (x.2.2.1 + o))] [] μ
  refine x_ran (fun n0 => ?_)
  have h := h n0 
  refine x_aload_n 0 rfl dX9_findPlans_0 ?_
  refine x_iconst dX9_findPlans_1 ?_
  refine x_putZ (j := 11) ho.1 (by have := ho.2.1; omega) rfl rfl (by decide) inT9 fl_X9_63 tyX9 tyX9_ok nmX9 rfl (Or.inl rfl) (by decide +kernel) dX9_findPlans_2 (fun μ1 e3 n2 => ?_)
  have h := h μ1 e3 n2
  refine x_aload_n 0 rfl dX9_findPlans_5 ?_
  refine x_iconst dX9_findPlans_6 ?_
  refine x_putI (j := 16) ho.1 (by have := ho.2.1; omega) rfl rfl (by decide) inT9 fl_X9_67 tyX9 tyX9_ok nmX9 rfl ⟨by decide, by decide⟩ (by decide +kernel) dX9_findPlans_7 (fun μ4 e6 n5 => ?_)
  have h := h μ4 e6 n5
  refine x_aload_n 0 rfl dX9_findPlans_10 ?_
  refine x_iconst dX9_findPlans_11 ?_
  refine x_putI (j := 1) ho.1 (by have := ho.2.1; omega) rfl rfl (by decide) inT9 fl_X9_70 tyX9 tyX9_ok nmX9 rfl ⟨by decide, by decide⟩ (by decide +kernel) dX9_findPlans_12 (fun μ7 e9 n8 => ?_)
  have h := h μ7 e9 n8
  refine x_aload_n 0 rfl dX9_findPlans_15 ?_
  refine x_iconst dX9_findPlans_16 ?_
  refine x_putI (j := 2) ho.1 (by have := ho.2.1; omega) rfl rfl (by decide) inT9 fl_X9_73 tyX9 tyX9_ok nmX9 rfl ⟨by decide, by decide⟩ (by decide +kernel) dX9_findPlans_17 (fun μ10 e12 n11 => ?_)
  have h := h μ10 e12 n11
  refine x_aload_n 0 rfl dX9_findPlans_20 ?_
  refine x_iconst dX9_findPlans_21 ?_
  refine x_putI (j := 3) ho.1 (by have := ho.2.1; omega) rfl rfl (by decide) inT9 fl_X9_76 tyX9 tyX9_ok nmX9 rfl ⟨by decide, by decide⟩ (by decide +kernel) dX9_findPlans_22 (fun μ13 e15 n14 => ?_)
  have h := h μ13 e15 n14
  refine x_aload_n 0 rfl dX9_findPlans_25 ?_
  refine x_iconst dX9_findPlans_26 ?_
  refine x_putI (j := 4) ho.1 (by have := ho.2.1; omega) rfl rfl (by decide) inT9 fl_X9_79 tyX9 tyX9_ok nmX9 rfl ⟨by decide, by decide⟩ (by decide +kernel) dX9_findPlans_27 (fun μ16 e18 n17 => ?_)
  have h := h μ16 e18 n17
  refine x_aload_n 0 rfl dX9_findPlans_30 ?_
  refine x_iconst dX9_findPlans_31 ?_
  refine x_iconst dX9_findPlans_32 ?_
  refine x_callVv (As := [iV 0, iV 0]) (rest := []) cal_X9_spread ins_X9_spread sel_X9_spread ho.1 (by have := ho.2.1; omega) rfl (xX9_spread x 6 o 0 0 _ _ ho ⟨by decide, by decide⟩ ⟨by decide, by decide⟩ h) rfl ml_X9_82 (xRoom (Nat.le_of_ble_eq_true rfl)) (Nat.le_of_ble_eq_true rfl) dX9_findPlans_33 (fun μ19 n20 h => ?_)
  have h := h n20
  refine x_aload_n 0 rfl dX9_findPlans_36 ?_
  refine x_iconst dX9_findPlans_37 ?_
  refine x_putZ (j := 0) ho.1 (by have := ho.2.1; omega) rfl rfl (by decide) inT9 fl_X9_86 tyX9 tyX9_ok nmX9 rfl (Or.inr rfl) (by decide +kernel) dX9_findPlans_38 (fun μ21 e23 n22 => ?_)
  have h := h μ21 e23 n22
  exact x_vret h rfl dX9_findPlans_41
set_option maxRecDepth 100000 in
set_option maxHeartbeats 4000000 in
theorem xX9_findLack (x : xX) (o : Nat) (μ : xM) (Q : xM → Prop) (ho : isSurvey o) (h : tX9_findLack o μ Q) : xMet x 19 yX9_findLack cX9_findLack 2 none [.ref (x.2.2.1 + o)] μ (xQv x Q) := by
  refine xMet_of (by decide +kernel) (Nat.le_of_ble_eq_true rfl) ?_
  show xW x (xRm 19, RX9, cX9_findLack, 2, none, fun _ _ => True) (xQv x Q) 0 [(0, .ref (x.2.2.1 + o))] [] μ
  refine x_ran (fun n0 => ?_)
  have h := h n0 
  refine x_aload_n 0 rfl dX9_findLack_0 ?_
  refine x_iconst dX9_findLack_1 ?_
  refine x_putZ (j := 11) ho.1 (by have := ho.2.1; omega) rfl rfl (by decide) inT9 fl_X9_63 tyX9 tyX9_ok nmX9 rfl (Or.inr rfl) (by decide +kernel) dX9_findLack_2 (fun μ1 e3 n2 => ?_)
  have h := h μ1 e3 n2
  refine x_aload_n 0 rfl dX9_findLack_5 ?_
  refine x_bipush dX9_findLack_6 (by decide) ?_
  refine x_putI (j := 16) ho.1 (by have := ho.2.1; omega) rfl rfl (by decide) inT9 fl_X9_67 tyX9 tyX9_ok nmX9 rfl ⟨by decide, by decide⟩ (by decide +kernel) dX9_findLack_8 (fun μ4 e6 n5 => ?_)
  have h := h μ4 e6 n5
  refine x_aload_n 0 rfl dX9_findLack_11 ?_
  refine x_iconst dX9_findLack_12 ?_
  refine x_putI (j := 5) ho.1 (by have := ho.2.1; omega) rfl rfl (by decide) inT9 fl_X9_89 tyX9 tyX9_ok nmX9 rfl ⟨by decide, by decide⟩ (by decide +kernel) dX9_findLack_13 (fun μ7 e9 n8 => ?_)
  have h := h μ7 e9 n8
  refine x_aload_n 0 rfl dX9_findLack_16 ?_
  refine x_iconst dX9_findLack_17 ?_
  refine x_iconst dX9_findLack_18 ?_
  refine x_callVv (As := [iV 0, iV 0]) (rest := []) cal_X9_spread ins_X9_spread sel_X9_spread ho.1 (by have := ho.2.1; omega) rfl (xX9_spread x 6 o 0 0 _ _ ho ⟨by decide, by decide⟩ ⟨by decide, by decide⟩ h) rfl ml_X9_82 (xRoom (Nat.le_of_ble_eq_true rfl)) (Nat.le_of_ble_eq_true rfl) dX9_findLack_19 (fun μ10 n11 h => ?_)
  have h := h n11
  refine x_iconst dX9_findLack_22 ?_
  refine x_istore_n [(1, iV 0), (0, .ref (x.2.2.1 + o))] dX9_findLack_23 (show 1 < 2 by decide) rfl ?_
  refine x_sub [1, 0] rfl ?_
  refine x_loop1 (fun l1_12 => [(0, .ref (x.2.2.1 + o)), (1, iV l1_12)]) h (fun J24 l1_12 μ13 hJ24 h n14 => ?_)
  refine x_iload_n 1 rfl dX9_findLack_24 ?_
  refine x_iconst dX9_findLack_25 ?_
  obtain ⟨c15, h⟩ := h
  refine x_icmpge (tgt := 45) c15 ⟨by decide, by decide⟩ dX9_findLack_26 (by decide) (fun k16 => ?_) (fun k16 => ?_)
  · have h := h.1 k16
    refine x_aload_n 0 rfl dX9_findLack_45 ?_
    refine x_iconst dX9_findLack_46 ?_
    refine x_putZ (j := 0) ho.1 (by have := ho.2.1; omega) rfl rfl (by decide) inT9 fl_X9_86 tyX9 tyX9_ok nmX9 rfl (Or.inr rfl) (by decide +kernel) dX9_findLack_47 (fun μ17 e19 n18 => ?_)
    have h := h μ17 e19 n18
    exact x_vret h rfl dX9_findLack_50
  · have h := h.2 k16
    refine x_aload_n 0 rfl dX9_findLack_29 ?_
    refine x_aload_n 0 rfl dX9_findLack_30 ?_
    refine x_getR (j := 10) (r := o + 4) ho.1 (by have := ho.2.1; omega) rfl rfl (by decide) inT9 fl_X9_21 dX9_findLack_31 ?_
    refine x_iload_n 1 rfl dX9_findLack_34 ?_
    obtain ⟨c20, h⟩ := h
    refine x_iald ho.2.2.2.2.2 c20.1 c20.2 (xIb (n := 3) c20 (by decide)) (by have := ho.2.1; omega) dX9_findLack_35 (fun r21 => ?_)
    refine x_callVv (As := [iV (μ13 (o + 4) l1_12.toNat)]) (rest := []) cal_X9_take ins_X9_take sel_X9_take ho.1 (by have := ho.2.1; omega) rfl (xX9_take x o (μ13 (o + 4) l1_12.toNat) _ _ ho r21 h) rfl ml_X9_92 (xRoom (Nat.le_of_ble_eq_true rfl)) (Nat.le_of_ble_eq_true rfl) dX9_findLack_36 (fun μ22 n23 h => ?_)
    have h := h n23
    refine x_iinc 1 rfl [(1, iV (l1_12 + 1)), (0, .ref (x.2.2.1 + o))] dX9_findLack_39 (show 1 < 2 by decide) rfl ?_
    refine x_goto (tgt := 24) dX9_findLack_42 (by decide) ?_
    exact x_sub [1, 0] rfl (hJ24 _ _ h)
set_option maxRecDepth 100000 in
set_option maxHeartbeats 4000000 in
theorem xX9_foundAt (x : xX) (o : Nat) (p1 : Int) (μ : xM) (Q : Int → xM → Prop) (ho : isSurvey o) (hp1 : xIn p1) (h : tX9_foundAt o p1 μ Q) : xMet x 1 yX9_foundAt cX9_foundAt 2 (some .int) [.ref (x.2.2.1 + o), iV p1] μ (xQi x Q) := by
  refine xMet_of (by decide +kernel) (Nat.le_of_ble_eq_true rfl) ?_
  show xW x (xRm 1, RX9, cX9_foundAt, 2, (some .int), fun _ _ => True) (xQi x Q) 0 [(0, .ref (x.2.2.1 + o)), (1, iV p1)] [] μ
  refine x_ran (fun n0 => ?_)
  have h := h n0 hp1
  refine x_iload_n 1 rfl dX9_foundAt_0 ?_
  refine x_iflt (tgt := 18) hp1  dX9_foundAt_1 (by decide) (fun k1 => ?_) (fun k1 => ?_)
  · have h := h.1 k1
    refine x_bipush dX9_foundAt_18 (by decide) ?_
    exact x_iret h ⟨by decide, by decide⟩ rfl dX9_foundAt_20
  · have h := h.2 k1
    refine x_iload_n 1 rfl dX9_foundAt_4 ?_
    refine x_iconst dX9_foundAt_5 ?_
    refine x_icmpge (tgt := 18) hp1 ⟨by decide, by decide⟩ dX9_foundAt_6 (by decide) (fun k2 => ?_) (fun k2 => ?_)
    · have h := h.1 k2
      refine x_bipush dX9_foundAt_18 (by decide) ?_
      exact x_iret h ⟨by decide, by decide⟩ rfl dX9_foundAt_20
    · have h := h.2 k2
      refine x_aload_n 0 rfl dX9_foundAt_9 ?_
      refine x_getR (j := 10) (r := o + 4) ho.1 (by have := ho.2.1; omega) rfl rfl (by decide) inT9 fl_X9_21 dX9_foundAt_10 ?_
      refine x_iload_n 1 rfl dX9_foundAt_13 ?_
      obtain ⟨c3, h⟩ := h
      refine x_iald ho.2.2.2.2.2 c3.1 c3.2 hp1 (by have := ho.2.1; omega) dX9_foundAt_14 (fun r4 => ?_)
      refine x_goto (tgt := 20) dX9_foundAt_15 (by decide) ?_
      exact x_iret h r4 rfl dX9_foundAt_20
set_option maxRecDepth 100000 in
set_option maxHeartbeats 4000000 in
theorem xX9_lackingAt (x : xX) (o : Nat) (p1 : Int) (μ : xM) (Q : Int → xM → Prop) (ho : isSurvey o) (hp1 : xIn p1) (h : tX9_lackingAt o p1 μ Q) : xMet x 5 yX9_lackingAt cX9_lackingAt 4 (some .int) [.ref (x.2.2.1 + o), iV p1] μ (xQi x Q) := by
  refine xMet_of (by decide +kernel) (Nat.le_of_ble_eq_true rfl) ?_
  show xW x (xRm 5, RX9, cX9_lackingAt, 4, (some .int), fun _ _ => True) (xQi x Q) 0 [(0, .ref (x.2.2.1 + o)), (1, iV p1)] [] μ
  refine x_ran (fun n0 => ?_)
  have h := h n0 hp1
  refine x_iconst dX9_lackingAt_0 ?_
  refine x_istore_n [(2, iV 0), (0, .ref (x.2.2.1 + o)), (1, iV p1)] dX9_lackingAt_1 (show 2 < 4 by decide) rfl ?_
  refine x_iconst dX9_lackingAt_2 ?_
  refine x_istore_n [(3, iV 0), (2, iV 0), (0, .ref (x.2.2.1 + o)), (1, iV p1)] dX9_lackingAt_3 (show 3 < 4 by decide) rfl ?_
  refine x_sub [2, 3, 1, 0] rfl ?_
  refine x_loop2 (fun l2_1 l3_2 => [(0, .ref (x.2.2.1 + o)), (1, iV p1), (2, iV l2_1), (3, iV l3_2)]) h (fun J4 l2_1 l3_2 μ3 hJ4 h n4 => ?_)
  refine x_iload_n 3 rfl dX9_lackingAt_4 ?_
  refine x_bipush dX9_lackingAt_5 (by decide) ?_
  obtain ⟨c5, h⟩ := h
  refine x_icmpge (tgt := 37) c5 ⟨by decide, by decide⟩ dX9_lackingAt_7 (by decide) (fun k6 => ?_) (fun k6 => ?_)
  · have h := h.1 k6
    refine x_iconst dX9_lackingAt_37 ?_
    exact x_iret h ⟨by decide, by decide⟩ rfl dX9_lackingAt_38
  · have h := h.2 k6
    refine x_iload_n 2 rfl dX9_lackingAt_10 ?_
    refine x_iconst dX9_lackingAt_11 ?_
    refine x_aload_n 0 rfl dX9_lackingAt_12 ?_
    refine x_getR (j := 7) (r := o + 1) ho.1 (by have := ho.2.1; omega) rfl rfl (by decide) inT9 fl_X9_9 dX9_lackingAt_13 ?_
    refine x_iload_n 3 rfl dX9_lackingAt_16 ?_
    obtain ⟨c7, h⟩ := h
    refine x_iald ho.2.2.1 c7.1 c7.2 (xIb (n := 26) c7 (by decide)) (by have := ho.2.1; omega) dX9_lackingAt_17 (fun r8 => ?_)
    refine x_ineg dX9_lackingAt_18 ?_
    obtain ⟨c9, h⟩ := h
    refine x_max ⟨by decide, by decide⟩ c9 ml_X9_98 (xRoom1 (by decide)) (Nat.le_of_ble_eq_true rfl) dX9_lackingAt_19 ?_
    refine x_iadd dX9_lackingAt_22 ?_
    refine x_istore_n [(2, iV (l2_1 + (max 0 (-(μ3 (o + 1) l3_2.toNat))))), (0, .ref (x.2.2.1 + o)), (1, iV p1), (3, iV l3_2)] dX9_lackingAt_23 (show 2 < 4 by decide) rfl ?_
    refine x_iload_n 2 rfl dX9_lackingAt_24 ?_
    refine x_iload_n 0 rfl dX9_lackingAt_25 ?_
    obtain ⟨c10, h⟩ := h
    refine x_icmpge (tgt := 31) hp1 c10 dX9_lackingAt_26 (by decide) (fun k11 => ?_) (fun k11 => ?_)
    · have h := h.1 k11
      refine x_iinc 3 rfl [(3, iV (l3_2 + 1)), (2, iV (l2_1 + (max 0 (-(μ3 (o + 1) l3_2.toNat))))), (0, .ref (x.2.2.1 + o)), (1, iV p1)] dX9_lackingAt_31 (show 3 < 4 by decide) rfl ?_
      refine x_goto (tgt := 4) dX9_lackingAt_34 (by decide) ?_
      exact x_sub [2, 3, 1, 0] rfl (hJ4 _ _ _ h)
    · have h := h.2 k11
      refine x_iload_n 3 rfl dX9_lackingAt_29 ?_
      exact x_iret h c5 rfl dX9_lackingAt_30
set_option maxRecDepth 100000 in
set_option maxHeartbeats 4000000 in
theorem xX10_feed (x : xX) (p1 : Int) (p2 : Int) (p3 : Int) (p4 : Int) (p5 : Int) (μ : xM) (Q : Int → xM → Prop) (hp1 : xIn p1) (hp2 : xIn p2) (hp3 : xIn p3) (hp4 : xIn p4) (hp5 : xIn p5) (h : tX10_feed p1 p2 p3 p4 p5 μ Q) : xMet x 3 yX10_feed cX10_feed 6 (some .int) [.ref (x.2.2.1 + 0), iV p1, iV p2, iV p3, iV p4, iV p5] μ (xQi x Q) := by
  refine xMet_of (by decide +kernel) (Nat.le_of_ble_eq_true rfl) ?_
  show xW x (xRm 3, RX10, cX10_feed, 6, (some .int), fun _ _ => True) (xQi x Q) 0 [(0, .ref (x.2.2.1 + 0)), (1, iV p1), (2, iV p2), (3, iV p3), (4, iV p4), (5, iV p5)] [] μ
  refine x_ran (fun n0 => ?_)
  have h := h n0 hp1 hp2 hp3 hp4 hp5
  refine x_aload_n 0 rfl dX10_feed_0 ?_
  refine x_getR (j := 1) (r := 35) ly0 (by decide) rfl rfl (by decide) inT10 fl_X10_21 dX10_feed_1 ?_
  refine x_iload_n 1 rfl dX10_feed_4 ?_
  refine x_iload_n 2 rfl dX10_feed_5 ?_
  refine x_iload_n 3 rfl dX10_feed_6 ?_
  refine x_iload 4 rfl dX10_feed_7 ?_
  refine x_iload 5 rfl dX10_feed_9 ?_
  refine x_callVi (As := [iV p1, iV p2, iV p3, iV p4, iV p5]) (rest := []) cal_X5_append ins_X5_append sel_X5_append ly35 (by decide) rfl (xX5_append x p1 p2 p3 p4 p5 _ _ hp1 hp2 hp3 hp4 hp5 h) rfl ml_X10_108 (xRoom (Nat.le_of_ble_eq_true rfl)) (Nat.le_of_ble_eq_true rfl) dX10_feed_11 (fun r3 μ1 i4 n2 h => ?_)
  have h := h i4 n2
  exact x_iret h i4 rfl dX10_feed_14
set_option maxRecDepth 100000 in
set_option maxHeartbeats 4000000 in
theorem xX10_refused (x : xX) (p1 : Int) (μ : xM) (Q : Int → xM → Prop) (hp1 : xIn p1) (h : tX10_refused p1 μ Q) : xMet x 1 yX10_refused cX10_refused 2 (some .int) [.ref (x.2.2.1 + 0), iV p1] μ (xQi x Q) := by
  refine xMet_of (by decide +kernel) (Nat.le_of_ble_eq_true rfl) ?_
  show xW x (xRm 1, RX10, cX10_refused, 2, (some .int), fun _ _ => True) (xQi x Q) 0 [(0, .ref (x.2.2.1 + 0)), (1, iV p1)] [] μ
  refine x_ran (fun n0 => ?_)
  have h := h n0 hp1
  refine x_aload_n 0 rfl dX10_refused_0 ?_
  refine x_iload_n 1 rfl dX10_refused_1 ?_
  refine x_putI (j := 18) ly0 (by decide) rfl rfl (by decide) inT10 fl_X10_146 tyX10 tyX10_ok nmX10 rfl hp1 (by decide +kernel) dX10_refused_2 (fun μ1 e3 n2 => ?_)
  have h := h μ1 e3 n2
  refine x_iconst dX10_refused_5 ?_
  exact x_iret h ⟨by decide, by decide⟩ rfl dX10_refused_6
set_option maxRecDepth 100000 in
set_option maxHeartbeats 4000000 in
theorem xX10_renew (x : xX)  (μ : xM) (Q : xM → Prop)  (h : tX10_renew  μ Q) : xMet x 3 yX10_renew cX10_renew 1 none [.ref (x.2.2.1 + 0)] μ (xQv x Q) := by
  refine xMet_of (by decide +kernel) (Nat.le_of_ble_eq_true rfl) ?_
  show xW x (xRm 3, RX10, cX10_renew, 1, none, fun _ _ => True) (xQv x Q) 0 [(0, .ref (x.2.2.1 + 0))] [] μ
  refine x_ran (fun n0 => ?_)
  have h := h n0 
  refine x_aload_n 0 rfl dX10_renew_0 ?_
  refine x_iconst dX10_renew_1 ?_
  refine x_putI (j := 17) ly0 (by decide) rfl rfl (by decide) inT10 fl_X10_325 tyX10 tyX10_ok nmX10 rfl ⟨by decide, by decide⟩ (by decide +kernel) dX10_renew_2 (fun μ1 e3 n2 => ?_)
  have h := h μ1 e3 n2
  refine x_aload_n 0 rfl dX10_renew_5 ?_
  refine x_getR (j := 5) (r := 211) ly0 (by decide) rfl rfl (by decide) inT10 fl_X10_47 dX10_renew_6 ?_
  refine x_iconst dX10_renew_9 ?_
  refine x_putZ (j := 0) ly211 (by decide) rfl rfl (by decide) inT9 fl_X10_270 tyX9 tyX9_ok nmX9 rfl (Or.inl rfl) (by decide +kernel) dX10_renew_10 (fun μ4 e6 n5 => ?_)
  have h := h μ4 e6 n5
  refine x_aload_n 0 rfl dX10_renew_13 ?_
  refine x_getR (j := 6) (r := 216) ly0 (by decide) rfl rfl (by decide) inT10 fl_X10_51 dX10_renew_14 ?_
  refine x_iconst dX10_renew_17 ?_
  refine x_putZ (j := 0) ly216 (by decide) rfl rfl (by decide) inT9 fl_X10_270 tyX9 tyX9_ok nmX9 rfl (Or.inl rfl) (by decide +kernel) dX10_renew_18 (fun μ7 e9 n8 => ?_)
  have h := h μ7 e9 n8
  refine x_aload_n 0 rfl dX10_renew_21 ?_
  refine x_getR (j := 7) (r := 221) ly0 (by decide) rfl rfl (by decide) inT10 fl_X10_54 dX10_renew_22 ?_
  refine x_iconst dX10_renew_25 ?_
  refine x_putZ (j := 0) ly221 (by decide) rfl rfl (by decide) inT9 fl_X10_270 tyX9 tyX9_ok nmX9 rfl (Or.inl rfl) (by decide +kernel) dX10_renew_26 (fun μ10 e12 n11 => ?_)
  have h := h μ10 e12 n11
  refine x_aload_n 0 rfl dX10_renew_29 ?_
  refine x_getR (j := 9) (r := 231) ly0 (by decide) rfl rfl (by decide) inT10 fl_X10_60 dX10_renew_30 ?_
  refine x_iconst dX10_renew_33 ?_
  refine x_callSv (As := [.ref (x.2.2.1 + 231), iV (-1)]) (rest := []) cal_J7_fill_53178 sta_J7_fill_53178 (xJ7_fill_53178 x 231 26 (-1) _ _ ⟨ly231, (by decide), (by decide)⟩ ⟨by decide, by decide⟩ h) rfl ml_X10_367 (xRoom (Nat.le_of_ble_eq_true rfl)) (Nat.le_of_ble_eq_true rfl) dX10_renew_34 (fun μ13 n14 h => ?_)
  have h := h n14
  refine x_aload_n 0 rfl dX10_renew_37 ?_
  refine x_getR (j := 10) (r := 232) ly0 (by decide) rfl rfl (by decide) inT10 fl_X10_67 dX10_renew_38 ?_
  refine x_callVv (As := []) (rest := []) cal_X0_forget ins_X0_forget sel_X0_forget ly232 (by decide) rfl (xX0_forget x  _ _  h) rfl ml_X10_373 (xRoom (Nat.le_of_ble_eq_true rfl)) (Nat.le_of_ble_eq_true rfl) dX10_renew_41 (fun μ15 n16 h => ?_)
  have h := h n16
  exact x_vret h rfl dX10_renew_44
set_option maxRecDepth 100000 in
set_option maxHeartbeats 4000000 in
theorem xX10_granted (x : xX) (p1 : Int) (μ : xM) (Q : Int → xM → Prop) (hp1 : xIn p1) (h : tX10_granted p1 μ Q) : xMet x 1 yX10_granted cX10_granted 2 (some .int) [.ref (x.2.2.1 + 0), iV p1] μ (xQi x Q) := by
  refine xMet_of (by decide +kernel) (Nat.le_of_ble_eq_true rfl) ?_
  show xW x (xRm 1, RX10, cX10_granted, 2, (some .int), fun _ _ => True) (xQi x Q) 0 [(0, .ref (x.2.2.1 + 0)), (1, iV p1)] [] μ
  refine x_ran (fun n0 => ?_)
  have h := h n0 hp1
  refine x_aload_n 0 rfl dX10_granted_0 ?_
  refine x_iconst dX10_granted_1 ?_
  refine x_putI (j := 18) ly0 (by decide) rfl rfl (by decide) inT10 fl_X10_146 tyX10 tyX10_ok nmX10 rfl ⟨by decide, by decide⟩ (by decide +kernel) dX10_granted_2 (fun μ1 e3 n2 => ?_)
  have h := h μ1 e3 n2
  refine x_iload_n 1 rfl dX10_granted_5 ?_
  exact x_iret h hp1 rfl dX10_granted_6
set_option maxRecDepth 100000 in
set_option maxHeartbeats 4000000 in
theorem xX10_inn (x : xX) (p1 : Int) (μ : xM) (Q : Int → xM → Prop) (hp1 : xIn p1) (h : tX10_inn p1 μ Q) : xMet x 10 yX10_inn cX10_inn 2 (some .int) [.ref (x.2.2.1 + 0), iV p1] μ (xQi x Q) := by
  refine xMet_of (by decide +kernel) (Nat.le_of_ble_eq_true rfl) ?_
  show xW x (xRm 10, RX10, cX10_inn, 2, (some .int), fun _ _ => True) (xQi x Q) 0 [(0, .ref (x.2.2.1 + 0)), (1, iV p1)] [] μ
  refine x_ran (fun n0 => ?_)
  have h := h n0 hp1
  refine x_iload_n 1 rfl dX10_inn_0 ?_
  refine x_iflt (tgt := 15) hp1  dX10_inn_1 (by decide) (fun k1 => ?_) (fun k1 => ?_)
  · have h := h.1 k1
    refine x_aload_n 0 rfl dX10_inn_15 ?_
    refine x_iconst dX10_inn_16 ?_
    refine x_callVi (As := [iV 2]) (rest := []) cal_X10_refused ins_X10_refused sel_X10_refused ly0 (by decide) rfl (xX10_refused x 2 _ _ ⟨by decide, by decide⟩ h) rfl ml_X10_116 (xRoom (Nat.le_of_ble_eq_true rfl)) (Nat.le_of_ble_eq_true rfl) dX10_inn_17 (fun r4 μ2 i5 n3 h => ?_)
    have h := h i5 n3
    exact x_iret h i5 rfl dX10_inn_20
  · have h := h.2 k1
    refine x_iload_n 1 rfl dX10_inn_4 ?_
    refine x_aload_n 0 rfl dX10_inn_5 ?_
    refine x_getR (j := 1) (r := 35) ly0 (by decide) rfl rfl (by decide) inT10 fl_X10_21 dX10_inn_6 ?_
    refine x_getI (j := 0) ly35 (by decide) rfl rfl (by decide) inT5 fl_X10_112 dX10_inn_9 (fun r6 => ?_)
    refine x_icmple (tgt := 21) hp1 r6 dX10_inn_12 (by decide) (fun k7 => ?_) (fun k7 => ?_)
    · have h := h.1 k7
      refine x_aload_n 0 rfl dX10_inn_21 ?_
      refine x_getR (j := 1) (r := 35) ly0 (by decide) rfl rfl (by decide) inT10 fl_X10_21 dX10_inn_22 ?_
      refine x_iload_n 1 rfl dX10_inn_25 ?_
      refine x_callVz (As := [iV p1]) (rest := []) cal_X5_readInn ins_X5_readInn sel_X5_readInn ly35 (by decide) rfl (xX5_readInn x p1 _ _ hp1 h) rfl ml_X10_120 (xRoom (Nat.le_of_ble_eq_true rfl)) (Nat.le_of_ble_eq_true rfl) dX10_inn_26 (fun r10 μ8 i11 n9 h => ?_)
      have h := h i11 n9
      refine x_ifne (tgt := 38) (xIz i11)  dX10_inn_29 (by decide) (fun k12 => ?_) (fun k12 => ?_)
      · have h := h.1 (xz1 i11 k12)
        refine x_aload_n 0 rfl dX10_inn_38 ?_
        refine x_getR (j := 2) (r := 39) ly0 (by decide) rfl rfl (by decide) inT10 fl_X10_25 dX10_inn_39 ?_
        refine x_aload_n 0 rfl dX10_inn_42 ?_
        refine x_getR (j := 0) (r := 1) ly0 (by decide) rfl rfl (by decide) inT10 fl_X10_12 dX10_inn_43 ?_
        refine x_callVv (As := [.ref (x.2.2.1 + 1)]) (rest := []) cal_X2_copyFrom ins_X2_copyFrom sel_X2_copyFrom ly39 (by decide) rfl (xX2_copyFrom x 39 1 _ _ isHouse_39 isHouse_1 h) rfl ml_X10_124 (xRoom (Nat.le_of_ble_eq_true rfl)) (Nat.le_of_ble_eq_true rfl) dX10_inn_46 (fun μ13 n14 h => ?_)
        have h := h n14
        refine x_aload_n 0 rfl dX10_inn_49 ?_
        refine x_getR (j := 3) (r := 73) ly0 (by decide) rfl rfl (by decide) inT10 fl_X10_31 dX10_inn_50 ?_
        refine x_callVv (As := []) (rest := []) cal_X1_weave ins_X1_weave sel_X1_weave ly73 (by decide) rfl (xX1_weave x  _ _  h) rfl ml_X10_127 (xRoom (Nat.le_of_ble_eq_true rfl)) (Nat.le_of_ble_eq_true rfl) dX10_inn_53 (fun μ15 n16 h => ?_)
        have h := h n16
        refine x_aload_n 0 rfl dX10_inn_56 ?_
        refine x_getR (j := 14) (r := 249) ly0 (by decide) rfl rfl (by decide) inT10 fl_X10_97 dX10_inn_57 ?_
        refine x_iconst dX10_inn_60 ?_
        refine x_callVv (As := [iV 0]) (rest := []) cal_X4_begin ins_X4_begin sel_X4_begin ly249 (by decide) rfl (xX4_begin x 249 0 _ _ isNight_249 ⟨by decide, by decide⟩ h) rfl ml_X10_130 (xRoom (Nat.le_of_ble_eq_true rfl)) (Nat.le_of_ble_eq_true rfl) dX10_inn_61 (fun μ17 n18 h => ?_)
        have h := h n18
        refine x_aload_n 0 rfl dX10_inn_64 ?_
        refine x_callVv (As := []) (rest := []) cal_X10_renew ins_X10_renew sel_X10_renew ly0 (by decide) rfl (xX10_renew x  _ _  h) rfl ml_X10_134 (xRoom (Nat.le_of_ble_eq_true rfl)) (Nat.le_of_ble_eq_true rfl) dX10_inn_65 (fun μ19 n20 h => ?_)
        have h := h n20
        refine x_aload_n 0 rfl dX10_inn_68 ?_
        refine x_aload_n 0 rfl dX10_inn_69 ?_
        refine x_getR (j := 2) (r := 39) ly0 (by decide) rfl rfl (by decide) inT10 fl_X10_25 dX10_inn_70 ?_
        refine x_getI (j := 4) ly39 (by decide) rfl rfl (by decide) inT2 fl_X10_137 dX10_inn_73 (fun r21 => ?_)
        refine x_callVi (As := [iV (μ19 39 4)]) (rest := []) cal_X10_granted ins_X10_granted sel_X10_granted ly0 (by decide) rfl (xX10_granted x (μ19 39 4) _ _ r21 h) rfl ml_X10_140 (xRoom (Nat.le_of_ble_eq_true rfl)) (Nat.le_of_ble_eq_true rfl) dX10_inn_76 (fun r24 μ22 i25 n23 h => ?_)
        have h := h i25 n23
        exact x_iret h i25 rfl dX10_inn_79
      · have h := h.2 k12
        refine x_aload_n 0 rfl dX10_inn_32 ?_
        refine x_iconst dX10_inn_33 ?_
        refine x_callVi (As := [iV 4]) (rest := []) cal_X10_refused ins_X10_refused sel_X10_refused ly0 (by decide) rfl (xX10_refused x 4 _ _ ⟨by decide, by decide⟩ h) rfl ml_X10_116 (xRoom (Nat.le_of_ble_eq_true rfl)) (Nat.le_of_ble_eq_true rfl) dX10_inn_34 (fun r28 μ26 i29 n27 h => ?_)
        have h := h i29 n27
        exact x_iret h i29 rfl dX10_inn_37
    · have h := h.2 k7
      refine x_aload_n 0 rfl dX10_inn_15 ?_
      refine x_iconst dX10_inn_16 ?_
      refine x_callVi (As := [iV 2]) (rest := []) cal_X10_refused ins_X10_refused sel_X10_refused ly0 (by decide) rfl (xX10_refused x 2 _ _ ⟨by decide, by decide⟩ h) rfl ml_X10_116 (xRoom (Nat.le_of_ble_eq_true rfl)) (Nat.le_of_ble_eq_true rfl) dX10_inn_17 (fun r32 μ30 i33 n31 h => ?_)
      have h := h i33 n31
      exact x_iret h i33 rfl dX10_inn_20
set_option maxRecDepth 100000 in
set_option maxHeartbeats 4000000 in
theorem xX10_fault (x : xX)  (μ : xM) (Q : Int → xM → Prop)  (h : tX10_fault  μ Q) : xMet x 1 yX10_fault cX10_fault 1 (some .int) [.ref (x.2.2.1 + 0)] μ (xQi x Q) := by
  refine xMet_of (by decide +kernel) (Nat.le_of_ble_eq_true rfl) ?_
  show xW x (xRm 1, RX10, cX10_fault, 1, (some .int), fun _ _ => True) (xQi x Q) 0 [(0, .ref (x.2.2.1 + 0))] [] μ
  refine x_ran (fun n0 => ?_)
  have h := h n0 
  refine x_aload_n 0 rfl dX10_fault_0 ?_
  refine x_getR (j := 1) (r := 35) ly0 (by decide) rfl rfl (by decide) inT10 fl_X10_21 dX10_fault_1 ?_
  refine x_getI (j := 1) ly35 (by decide) rfl rfl (by decide) inT5 fl_X10_143 dX10_fault_4 (fun r1 => ?_)
  exact x_iret h r1 rfl dX10_fault_7
set_option maxRecDepth 100000 in
set_option maxHeartbeats 4000000 in
theorem xX10_where (x : xX)  (μ : xM) (Q : Int → xM → Prop)  (h : tX10_where  μ Q) : xMet x 1 yX10_where cX10_where 1 (some .int) [.ref (x.2.2.1 + 0)] μ (xQi x Q) := by
  refine xMet_of (by decide +kernel) (Nat.le_of_ble_eq_true rfl) ?_
  show xW x (xRm 1, RX10, cX10_where, 1, (some .int), fun _ _ => True) (xQi x Q) 0 [(0, .ref (x.2.2.1 + 0))] [] μ
  refine x_ran (fun n0 => ?_)
  have h := h n0 
  refine x_aload_n 0 rfl dX10_where_0 ?_
  refine x_getI (j := 18) ly0 (by decide) rfl rfl (by decide) inT10 fl_X10_146 dX10_where_1 (fun r1 => ?_)
  refine x_iconst dX10_where_4 ?_
  refine x_icmpne (tgt := 18) r1 ⟨by decide, by decide⟩ dX10_where_5 (by decide) (fun k2 => ?_) (fun k2 => ?_)
  · have h := h.1 k2
    refine x_iconst dX10_where_18 ?_
    exact x_iret h ⟨by decide, by decide⟩ rfl dX10_where_19
  · have h := h.2 k2
    refine x_aload_n 0 rfl dX10_where_8 ?_
    refine x_getR (j := 1) (r := 35) ly0 (by decide) rfl rfl (by decide) inT10 fl_X10_21 dX10_where_9 ?_
    refine x_getI (j := 2) ly35 (by decide) rfl rfl (by decide) inT5 fl_X10_149 dX10_where_12 (fun r3 => ?_)
    refine x_goto (tgt := 19) dX10_where_15 (by decide) ?_
    exact x_iret h r3 rfl dX10_where_19
set_option maxRecDepth 100000 in
set_option maxHeartbeats 4000000 in
theorem xX10_word (x : xX) (p1 : Int) (p2 : Int) (μ : xM) (Q : Int → xM → Prop) (hp1 : xIn p1) (hp2 : xIn p2) (h : tX10_word p1 p2 μ Q) : xMet x 3 yX10_word cX10_word 3 (some .int) [.ref (x.2.2.1 + 0), iV p1, iV p2] μ (xQi x Q) := by
  refine xMet_of (by decide +kernel) (Nat.le_of_ble_eq_true rfl) ?_
  show xW x (xRm 3, RX10, cX10_word, 3, (some .int), fun _ _ => True) (xQi x Q) 0 [(0, .ref (x.2.2.1 + 0)), (1, iV p1), (2, iV p2)] [] μ
  refine x_ran (fun n0 => ?_)
  have h := h n0 hp1 hp2
  refine x_aload_n 0 rfl dX10_word_0 ?_
  refine x_getR (j := 2) (r := 39) ly0 (by decide) rfl rfl (by decide) inT10 fl_X10_25 dX10_word_1 ?_
  refine x_iload_n 1 rfl dX10_word_4 ?_
  refine x_callVz (As := [iV p1]) (rest := []) cal_X2_isWord ins_X2_isWord sel_X2_isWord ly39 (by decide) rfl (xX2_isWord x 39 p1 _ _ isHouse_39 hp1 h) rfl ml_X10_152 (xRoom (Nat.le_of_ble_eq_true rfl)) (Nat.le_of_ble_eq_true rfl) dX10_word_5 (fun r3 μ1 i4 n2 h => ?_)
  have h := h i4 n2
  refine x_ifne (tgt := 17) (xIz i4)  dX10_word_8 (by decide) (fun k5 => ?_) (fun k5 => ?_)
  · have h := h.1 (xz1 i4 k5)
    refine x_iload_n 2 rfl dX10_word_17 ?_
    by_cases k14 : p2 = 0
    · refine x_tabIn (tgt := 48) 0 hp2 (by omega) (by decide) rfl (by decide) dX10_word_18 ?_
      have h := h.1 k14
      refine x_aload_n 0 rfl dX10_word_48 ?_
      refine x_aload_n 0 rfl dX10_word_49 ?_
      refine x_getR (j := 2) (r := 39) ly0 (by decide) rfl rfl (by decide) inT10 fl_X10_25 dX10_word_50 ?_
      refine x_iload_n 1 rfl dX10_word_53 ?_
      refine x_callVi (As := [iV p1]) (rest := [.ref (x.2.2.1 + 0)]) cal_X2_lengthOf ins_X2_lengthOf sel_X2_lengthOf ly39 (by decide) rfl (xX2_lengthOf x 39 p1 _ _ isHouse_39 hp1 h) rfl ml_X10_155 (xRoom (Nat.le_of_ble_eq_true rfl)) (Nat.le_of_ble_eq_true rfl) dX10_word_54 (fun r8 μ6 i9 n7 h => ?_)
      have h := h i9 n7
      refine x_callVi (As := [iV r8]) (rest := []) cal_X10_granted ins_X10_granted sel_X10_granted ly0 (by decide) rfl (xX10_granted x r8 _ _ i9 h) rfl ml_X10_140 (xRoom (Nat.le_of_ble_eq_true rfl)) (Nat.le_of_ble_eq_true rfl) dX10_word_57 (fun r12 μ10 i13 n11 h => ?_)
      have h := h i13 n11
      exact x_iret h i13 rfl dX10_word_60
    by_cases k23 : p2 = 1
    · refine x_tabIn (tgt := 61) 1 hp2 (by omega) (by decide) rfl (by decide) dX10_word_18 ?_
      have h := h.2.1 k23
      refine x_aload_n 0 rfl dX10_word_61 ?_
      refine x_aload_n 0 rfl dX10_word_62 ?_
      refine x_getR (j := 2) (r := 39) ly0 (by decide) rfl rfl (by decide) inT10 fl_X10_25 dX10_word_63 ?_
      refine x_iload_n 1 rfl dX10_word_66 ?_
      refine x_callVi (As := [iV p1]) (rest := [.ref (x.2.2.1 + 0)]) cal_X2_valueOf ins_X2_valueOf sel_X2_valueOf ly39 (by decide) rfl (xX2_valueOf x 39 p1 _ _ isHouse_39 hp1 h) rfl ml_X10_158 (xRoom (Nat.le_of_ble_eq_true rfl)) (Nat.le_of_ble_eq_true rfl) dX10_word_67 (fun r17 μ15 i18 n16 h => ?_)
      have h := h i18 n16
      refine x_callVi (As := [iV r17]) (rest := []) cal_X10_granted ins_X10_granted sel_X10_granted ly0 (by decide) rfl (xX10_granted x r17 _ _ i18 h) rfl ml_X10_140 (xRoom (Nat.le_of_ble_eq_true rfl)) (Nat.le_of_ble_eq_true rfl) dX10_word_70 (fun r21 μ19 i22 n20 h => ?_)
      have h := h i22 n20
      exact x_iret h i22 rfl dX10_word_73
    by_cases k37 : p2 = 2
    · refine x_tabIn (tgt := 74) 2 hp2 (by omega) (by decide) rfl (by decide) dX10_word_18 ?_
      have h := h.2.2.1 k37
      refine x_aload_n 0 rfl dX10_word_74 ?_
      refine x_aload_n 0 rfl dX10_word_75 ?_
      refine x_getR (j := 2) (r := 39) ly0 (by decide) rfl rfl (by decide) inT10 fl_X10_25 dX10_word_76 ?_
      refine x_iload_n 1 rfl dX10_word_79 ?_
      refine x_callVz (As := [iV p1]) (rest := [.ref (x.2.2.1 + 0)]) cal_X2_isBarred ins_X2_isBarred sel_X2_isBarred ly39 (by decide) rfl (xX2_isBarred x 39 p1 _ _ isHouse_39 hp1 h) rfl ml_X10_161 (xRoom (Nat.le_of_ble_eq_true rfl)) (Nat.le_of_ble_eq_true rfl) dX10_word_80 (fun r26 μ24 i27 n25 h => ?_)
      have h := h i27 n25
      refine x_ifeq (tgt := 90) (xIz i27)  dX10_word_83 (by decide) (fun k28 => ?_) (fun k28 => ?_)
      · have h := h.1 k28
        refine x_iconst dX10_word_90 ?_
        refine x_callVi (As := [iV 0]) (rest := []) cal_X10_granted ins_X10_granted sel_X10_granted ly0 (by decide) rfl (xX10_granted x 0 _ _ ⟨by decide, by decide⟩ h) rfl ml_X10_140 (xRoom (Nat.le_of_ble_eq_true rfl)) (Nat.le_of_ble_eq_true rfl) dX10_word_91 (fun r31 μ29 i32 n30 h => ?_)
        have h := h i32 n30
        exact x_iret h i32 rfl dX10_word_94
      · have h := h.2 (xz1 i27 k28)
        refine x_iconst dX10_word_86 ?_
        refine x_goto (tgt := 91) dX10_word_87 (by decide) ?_
        refine x_callVi (As := [iV 1]) (rest := []) cal_X10_granted ins_X10_granted sel_X10_granted ly0 (by decide) rfl (xX10_granted x 1 _ _ ⟨by decide, by decide⟩ h) rfl ml_X10_140 (xRoom (Nat.le_of_ble_eq_true rfl)) (Nat.le_of_ble_eq_true rfl) dX10_word_91 (fun r35 μ33 i36 n34 h => ?_)
        have h := h i36 n34
        exact x_iret h i36 rfl dX10_word_94
    by_cases k51 : p2 = 3
    · refine x_tabIn (tgt := 95) 3 hp2 (by omega) (by decide) rfl (by decide) dX10_word_18 ?_
      have h := h.2.2.2.1 k51
      refine x_aload_n 0 rfl dX10_word_95 ?_
      refine x_aload_n 0 rfl dX10_word_96 ?_
      refine x_getR (j := 2) (r := 39) ly0 (by decide) rfl rfl (by decide) inT10 fl_X10_25 dX10_word_97 ?_
      refine x_iload_n 1 rfl dX10_word_100 ?_
      refine x_callVz (As := [iV p1]) (rest := [.ref (x.2.2.1 + 0)]) cal_X2_isGood ins_X2_isGood sel_X2_isGood ly39 (by decide) rfl (xX2_isGood x 39 p1 _ _ isHouse_39 hp1 h) rfl ml_X10_164 (xRoom (Nat.le_of_ble_eq_true rfl)) (Nat.le_of_ble_eq_true rfl) dX10_word_101 (fun r40 μ38 i41 n39 h => ?_)
      have h := h i41 n39
      refine x_ifeq (tgt := 111) (xIz i41)  dX10_word_104 (by decide) (fun k42 => ?_) (fun k42 => ?_)
      · have h := h.1 k42
        refine x_iconst dX10_word_111 ?_
        refine x_callVi (As := [iV 0]) (rest := []) cal_X10_granted ins_X10_granted sel_X10_granted ly0 (by decide) rfl (xX10_granted x 0 _ _ ⟨by decide, by decide⟩ h) rfl ml_X10_140 (xRoom (Nat.le_of_ble_eq_true rfl)) (Nat.le_of_ble_eq_true rfl) dX10_word_112 (fun r45 μ43 i46 n44 h => ?_)
        have h := h i46 n44
        exact x_iret h i46 rfl dX10_word_115
      · have h := h.2 (xz1 i41 k42)
        refine x_iconst dX10_word_107 ?_
        refine x_goto (tgt := 112) dX10_word_108 (by decide) ?_
        refine x_callVi (As := [iV 1]) (rest := []) cal_X10_granted ins_X10_granted sel_X10_granted ly0 (by decide) rfl (xX10_granted x 1 _ _ ⟨by decide, by decide⟩ h) rfl ml_X10_140 (xRoom (Nat.le_of_ble_eq_true rfl)) (Nat.le_of_ble_eq_true rfl) dX10_word_112 (fun r49 μ47 i50 n48 h => ?_)
        have h := h i50 n48
        exact x_iret h i50 rfl dX10_word_115
    have k56 : p2 < 0 ∨ 3 < p2 := by omega
    refine x_tabOut (tgt := 116) hp2 k56 (by decide) dX10_word_18 ?_
    have h := h.2.2.2.2 k56
    refine x_aload_n 0 rfl dX10_word_116 ?_
    refine x_iconst dX10_word_117 ?_
    refine x_callVi (As := [iV 1]) (rest := []) cal_X10_refused ins_X10_refused sel_X10_refused ly0 (by decide) rfl (xX10_refused x 1 _ _ ⟨by decide, by decide⟩ h) rfl ml_X10_116 (xRoom (Nat.le_of_ble_eq_true rfl)) (Nat.le_of_ble_eq_true rfl) dX10_word_118 (fun r54 μ52 i55 n53 h => ?_)
    have h := h i55 n53
    exact x_iret h i55 rfl dX10_word_121
  · have h := h.2 k5
    refine x_aload_n 0 rfl dX10_word_11 ?_
    refine x_iconst dX10_word_12 ?_
    refine x_callVi (As := [iV 1]) (rest := []) cal_X10_refused ins_X10_refused sel_X10_refused ly0 (by decide) rfl (xX10_refused x 1 _ _ ⟨by decide, by decide⟩ h) rfl ml_X10_116 (xRoom (Nat.le_of_ble_eq_true rfl)) (Nat.le_of_ble_eq_true rfl) dX10_word_13 (fun r59 μ57 i60 n58 h => ?_)
    have h := h i60 n58
    exact x_iret h i60 rfl dX10_word_16
set_option maxRecDepth 100000 in
set_option maxHeartbeats 4000000 in
theorem xX10_letter (x : xX) (p1 : Int) (p2 : Int) (μ : xM) (Q : Int → xM → Prop) (hp1 : xIn p1) (hp2 : xIn p2) (h : tX10_letter p1 p2 μ Q) : xMet x 3 yX10_letter cX10_letter 3 (some .int) [.ref (x.2.2.1 + 0), iV p1, iV p2] μ (xQi x Q) := by
  refine xMet_of (by decide +kernel) (Nat.le_of_ble_eq_true rfl) ?_
  show xW x (xRm 3, RX10, cX10_letter, 3, (some .int), fun _ _ => True) (xQi x Q) 0 [(0, .ref (x.2.2.1 + 0)), (1, iV p1), (2, iV p2)] [] μ
  refine x_ran (fun n0 => ?_)
  have h := h n0 hp1 hp2
  refine x_aload_n 0 rfl dX10_letter_0 ?_
  refine x_getR (j := 2) (r := 39) ly0 (by decide) rfl rfl (by decide) inT10 fl_X10_25 dX10_letter_1 ?_
  refine x_iload_n 1 rfl dX10_letter_4 ?_
  refine x_callVz (As := [iV p1]) (rest := []) cal_X2_isWord ins_X2_isWord sel_X2_isWord ly39 (by decide) rfl (xX2_isWord x 39 p1 _ _ isHouse_39 hp1 h) rfl ml_X10_152 (xRoom (Nat.le_of_ble_eq_true rfl)) (Nat.le_of_ble_eq_true rfl) dX10_letter_5 (fun r3 μ1 i4 n2 h => ?_)
  have h := h i4 n2
  refine x_ifeq (tgt := 27) (xIz i4)  dX10_letter_8 (by decide) (fun k5 => ?_) (fun k5 => ?_)
  · have h := h.1 k5
    refine x_aload_n 0 rfl dX10_letter_27 ?_
    refine x_iconst dX10_letter_28 ?_
    refine x_callVi (As := [iV 1]) (rest := []) cal_X10_refused ins_X10_refused sel_X10_refused ly0 (by decide) rfl (xX10_refused x 1 _ _ ⟨by decide, by decide⟩ h) rfl ml_X10_116 (xRoom (Nat.le_of_ble_eq_true rfl)) (Nat.le_of_ble_eq_true rfl) dX10_letter_29 (fun r8 μ6 i9 n7 h => ?_)
    have h := h i9 n7
    exact x_iret h i9 rfl dX10_letter_32
  · have h := h.2 (xz1 i4 k5)
    refine x_iload_n 2 rfl dX10_letter_11 ?_
    refine x_iflt (tgt := 27) hp2  dX10_letter_12 (by decide) (fun k10 => ?_) (fun k10 => ?_)
    · have h := h.1 k10
      refine x_aload_n 0 rfl dX10_letter_27 ?_
      refine x_iconst dX10_letter_28 ?_
      refine x_callVi (As := [iV 1]) (rest := []) cal_X10_refused ins_X10_refused sel_X10_refused ly0 (by decide) rfl (xX10_refused x 1 _ _ ⟨by decide, by decide⟩ h) rfl ml_X10_116 (xRoom (Nat.le_of_ble_eq_true rfl)) (Nat.le_of_ble_eq_true rfl) dX10_letter_29 (fun r13 μ11 i14 n12 h => ?_)
      have h := h i14 n12
      exact x_iret h i14 rfl dX10_letter_32
    · have h := h.2 k10
      refine x_iload_n 2 rfl dX10_letter_15 ?_
      refine x_aload_n 0 rfl dX10_letter_16 ?_
      refine x_getR (j := 2) (r := 39) ly0 (by decide) rfl rfl (by decide) inT10 fl_X10_25 dX10_letter_17 ?_
      refine x_iload_n 1 rfl dX10_letter_20 ?_
      refine x_callVi (As := [iV p1]) (rest := [iV p2]) cal_X2_lengthOf ins_X2_lengthOf sel_X2_lengthOf ly39 (by decide) rfl (xX2_lengthOf x 39 p1 _ _ isHouse_39 hp1 h) rfl ml_X10_155 (xRoom (Nat.le_of_ble_eq_true rfl)) (Nat.le_of_ble_eq_true rfl) dX10_letter_21 (fun r17 μ15 i18 n16 h => ?_)
      have h := h i18 n16
      refine x_icmplt (tgt := 33) hp2 i18 dX10_letter_24 (by decide) (fun k19 => ?_) (fun k19 => ?_)
      · have h := h.1 k19
        refine x_aload_n 0 rfl dX10_letter_33 ?_
        refine x_aload_n 0 rfl dX10_letter_34 ?_
        refine x_getR (j := 2) (r := 39) ly0 (by decide) rfl rfl (by decide) inT10 fl_X10_25 dX10_letter_35 ?_
        refine x_iload_n 1 rfl dX10_letter_38 ?_
        refine x_iload_n 2 rfl dX10_letter_39 ?_
        refine x_callVi (As := [iV p1, iV p2]) (rest := [.ref (x.2.2.1 + 0)]) cal_X2_glyphOf ins_X2_glyphOf sel_X2_glyphOf ly39 (by decide) rfl (xX2_glyphOf x 39 p1 p2 _ _ isHouse_39 hp1 hp2 h) rfl ml_X10_167 (xRoom (Nat.le_of_ble_eq_true rfl)) (Nat.le_of_ble_eq_true rfl) dX10_letter_40 (fun r22 μ20 i23 n21 h => ?_)
        have h := h i23 n21
        refine x_callVi (As := [iV r22]) (rest := []) cal_X10_granted ins_X10_granted sel_X10_granted ly0 (by decide) rfl (xX10_granted x r22 _ _ i23 h) rfl ml_X10_140 (xRoom (Nat.le_of_ble_eq_true rfl)) (Nat.le_of_ble_eq_true rfl) dX10_letter_43 (fun r26 μ24 i27 n25 h => ?_)
        have h := h i27 n25
        exact x_iret h i27 rfl dX10_letter_46
      · have h := h.2 k19
        refine x_aload_n 0 rfl dX10_letter_27 ?_
        refine x_iconst dX10_letter_28 ?_
        refine x_callVi (As := [iV 1]) (rest := []) cal_X10_refused ins_X10_refused sel_X10_refused ly0 (by decide) rfl (xX10_refused x 1 _ _ ⟨by decide, by decide⟩ h) rfl ml_X10_116 (xRoom (Nat.le_of_ble_eq_true rfl)) (Nat.le_of_ble_eq_true rfl) dX10_letter_29 (fun r30 μ28 i31 n29 h => ?_)
        have h := h i31 n29
        exact x_iret h i31 rfl dX10_letter_32
set_option maxRecDepth 100000 in
set_option maxHeartbeats 4000000 in
theorem xX10_grows (x : xX) (p1 : Int) (p2 : Int) (μ : xM) (Q : Int → xM → Prop) (hp1 : xIn p1) (hp2 : xIn p2) (h : tX10_grows p1 p2 μ Q) : xMet x 3 yX10_grows cX10_grows 4 (some .int) [.ref (x.2.2.1 + 0), iV p1, iV p2] μ (xQi x Q) := by
  refine xMet_of (by decide +kernel) (Nat.le_of_ble_eq_true rfl) ?_
  show xW x (xRm 3, RX10, cX10_grows, 4, (some .int), fun _ _ => True) (xQi x Q) 0 [(0, .ref (x.2.2.1 + 0)), (1, iV p1), (2, iV p2)] [] μ
  refine x_ran (fun n0 => ?_)
  have h := h n0 hp1 hp2
  refine x_aload_n 0 rfl dX10_grows_0 ?_
  refine x_getR (j := 2) (r := 39) ly0 (by decide) rfl rfl (by decide) inT10 fl_X10_25 dX10_grows_1 ?_
  refine x_iload_n 1 rfl dX10_grows_4 ?_
  refine x_callVz (As := [iV p1]) (rest := []) cal_X2_isWord ins_X2_isWord sel_X2_isWord ly39 (by decide) rfl (xX2_isWord x 39 p1 _ _ isHouse_39 hp1 h) rfl ml_X10_152 (xRoom (Nat.le_of_ble_eq_true rfl)) (Nat.le_of_ble_eq_true rfl) dX10_grows_5 (fun r3 μ1 i4 n2 h => ?_)
  have h := h i4 n2
  refine x_ifeq (tgt := 22) (xIz i4)  dX10_grows_8 (by decide) (fun k5 => ?_) (fun k5 => ?_)
  · have h := h.1 k5
    refine x_aload_n 0 rfl dX10_grows_22 ?_
    refine x_iconst dX10_grows_23 ?_
    refine x_callVi (As := [iV 1]) (rest := []) cal_X10_refused ins_X10_refused sel_X10_refused ly0 (by decide) rfl (xX10_refused x 1 _ _ ⟨by decide, by decide⟩ h) rfl ml_X10_116 (xRoom (Nat.le_of_ble_eq_true rfl)) (Nat.le_of_ble_eq_true rfl) dX10_grows_24 (fun r8 μ6 i9 n7 h => ?_)
    have h := h i9 n7
    exact x_iret h i9 rfl dX10_grows_27
  · have h := h.2 (xz1 i4 k5)
    refine x_aload_n 0 rfl dX10_grows_11 ?_
    refine x_getR (j := 2) (r := 39) ly0 (by decide) rfl rfl (by decide) inT10 fl_X10_25 dX10_grows_12 ?_
    refine x_iload_n 2 rfl dX10_grows_15 ?_
    refine x_callVz (As := [iV p2]) (rest := []) cal_X2_isWord ins_X2_isWord sel_X2_isWord ly39 (by decide) rfl (xX2_isWord x 39 p2 _ _ isHouse_39 hp2 h) rfl ml_X10_152 (xRoom (Nat.le_of_ble_eq_true rfl)) (Nat.le_of_ble_eq_true rfl) dX10_grows_16 (fun r12 μ10 i13 n11 h => ?_)
    have h := h i13 n11
    refine x_ifne (tgt := 28) (xIz i13)  dX10_grows_19 (by decide) (fun k14 => ?_) (fun k14 => ?_)
    · have h := h.1 (xz1 i13 k14)
      refine x_aload_n 0 rfl dX10_grows_28 ?_
      refine x_getR (j := 2) (r := 39) ly0 (by decide) rfl rfl (by decide) inT10 fl_X10_25 dX10_grows_29 ?_
      refine x_iload_n 1 rfl dX10_grows_32 ?_
      refine x_callVz (As := [iV p1]) (rest := []) cal_X2_isGood ins_X2_isGood sel_X2_isGood ly39 (by decide) rfl (xX2_isGood x 39 p1 _ _ isHouse_39 hp1 h) rfl ml_X10_164 (xRoom (Nat.le_of_ble_eq_true rfl)) (Nat.le_of_ble_eq_true rfl) dX10_grows_33 (fun r17 μ15 i18 n16 h => ?_)
      have h := h i18 n16
      refine x_ifeq (tgt := 50) (xIz i18)  dX10_grows_36 (by decide) (fun k19 => ?_) (fun k19 => ?_)
      · have h := h.1 k19
        refine x_aload_n 0 rfl dX10_grows_50 ?_
        refine x_iconst dX10_grows_51 ?_
        refine x_callVi (As := [iV 5]) (rest := []) cal_X10_refused ins_X10_refused sel_X10_refused ly0 (by decide) rfl (xX10_refused x 5 _ _ ⟨by decide, by decide⟩ h) rfl ml_X10_116 (xRoom (Nat.le_of_ble_eq_true rfl)) (Nat.le_of_ble_eq_true rfl) dX10_grows_52 (fun r22 μ20 i23 n21 h => ?_)
        have h := h i23 n21
        exact x_iret h i23 rfl dX10_grows_55
      · have h := h.2 (xz1 i18 k19)
        refine x_aload_n 0 rfl dX10_grows_39 ?_
        refine x_getR (j := 2) (r := 39) ly0 (by decide) rfl rfl (by decide) inT10 fl_X10_25 dX10_grows_40 ?_
        refine x_iload_n 2 rfl dX10_grows_43 ?_
        refine x_callVz (As := [iV p2]) (rest := []) cal_X2_isGood ins_X2_isGood sel_X2_isGood ly39 (by decide) rfl (xX2_isGood x 39 p2 _ _ isHouse_39 hp2 h) rfl ml_X10_164 (xRoom (Nat.le_of_ble_eq_true rfl)) (Nat.le_of_ble_eq_true rfl) dX10_grows_44 (fun r26 μ24 i27 n25 h => ?_)
        have h := h i27 n25
        refine x_ifne (tgt := 56) (xIz i27)  dX10_grows_47 (by decide) (fun k28 => ?_) (fun k28 => ?_)
        · have h := h.1 (xz1 i27 k28)
          refine x_aload_n 0 rfl dX10_grows_56 ?_
          refine x_getR (j := 3) (r := 73) ly0 (by decide) rfl rfl (by decide) inT10 fl_X10_31 dX10_grows_57 ?_
          refine x_iload_n 1 rfl dX10_grows_60 ?_
          refine x_iload_n 2 rfl dX10_grows_61 ?_
          refine x_callVi (As := [iV p1, iV p2]) (rest := []) cal_X1_letterOf ins_X1_letterOf sel_X1_letterOf ly73 (by decide) rfl (xX1_letterOf x p1 p2 _ _ hp1 hp2 h) rfl ml_X10_171 (xRoom (Nat.le_of_ble_eq_true rfl)) (Nat.le_of_ble_eq_true rfl) dX10_grows_62 (fun r31 μ29 i32 n30 h => ?_)
          have h := h i32 n30
          refine x_istore_n [(3, iV r31), (0, .ref (x.2.2.1 + 0)), (1, iV p1), (2, iV p2)] dX10_grows_65 (show 3 < 4 by decide) rfl ?_
          refine x_aload_n 1 rfl dX10_grows_66 ?_
          refine x_iload_n 0 rfl dX10_grows_67 ?_
          refine x_ifge (tgt := 76) i32  dX10_grows_68 (by decide) (fun k33 => ?_) (fun k33 => ?_)
          · have h := h.1 k33
            refine x_iload_n 0 rfl dX10_grows_76 ?_
            refine x_callVi (As := [iV r31]) (rest := []) cal_X10_granted ins_X10_granted sel_X10_granted ly0 (by decide) rfl (xX10_granted x r31 _ _ i32 h) rfl ml_X10_140 (xRoom (Nat.le_of_ble_eq_true rfl)) (Nat.le_of_ble_eq_true rfl) dX10_grows_77 (fun r36 μ34 i37 n35 h => ?_)
            have h := h i37 n35
            exact x_iret h i37 rfl dX10_grows_80
          · have h := h.2 k33
            refine x_bipush dX10_grows_71 (by decide) ?_
            refine x_goto (tgt := 77) dX10_grows_73 (by decide) ?_
            refine x_callVi (As := [iV (-2)]) (rest := []) cal_X10_granted ins_X10_granted sel_X10_granted ly0 (by decide) rfl (xX10_granted x (-2) _ _ ⟨by decide, by decide⟩ h) rfl ml_X10_140 (xRoom (Nat.le_of_ble_eq_true rfl)) (Nat.le_of_ble_eq_true rfl) dX10_grows_77 (fun r40 μ38 i41 n39 h => ?_)
            have h := h i41 n39
            exact x_iret h i41 rfl dX10_grows_80
        · have h := h.2 k28
          refine x_aload_n 0 rfl dX10_grows_50 ?_
          refine x_iconst dX10_grows_51 ?_
          refine x_callVi (As := [iV 5]) (rest := []) cal_X10_refused ins_X10_refused sel_X10_refused ly0 (by decide) rfl (xX10_refused x 5 _ _ ⟨by decide, by decide⟩ h) rfl ml_X10_116 (xRoom (Nat.le_of_ble_eq_true rfl)) (Nat.le_of_ble_eq_true rfl) dX10_grows_52 (fun r44 μ42 i45 n43 h => ?_)
          have h := h i45 n43
          exact x_iret h i45 rfl dX10_grows_55
    · have h := h.2 k14
      refine x_aload_n 0 rfl dX10_grows_22 ?_
      refine x_iconst dX10_grows_23 ?_
      refine x_callVi (As := [iV 1]) (rest := []) cal_X10_refused ins_X10_refused sel_X10_refused ly0 (by decide) rfl (xX10_refused x 1 _ _ ⟨by decide, by decide⟩ h) rfl ml_X10_116 (xRoom (Nat.le_of_ble_eq_true rfl)) (Nat.le_of_ble_eq_true rfl) dX10_grows_24 (fun r48 μ46 i49 n47 h => ?_)
      have h := h i49 n47
      exact x_iret h i49 rfl dX10_grows_27
set_option maxRecDepth 100000 in
set_option maxHeartbeats 4000000 in
theorem xX10_chain (x : xX) (p1 : Int) (μ : xM) (Q : Int → xM → Prop) (hp1 : xIn p1) (h : tX10_chain p1 μ Q) : xMet x 3 yX10_chain cX10_chain 2 (some .int) [.ref (x.2.2.1 + 0), iV p1] μ (xQi x Q) := by
  refine xMet_of (by decide +kernel) (Nat.le_of_ble_eq_true rfl) ?_
  show xW x (xRm 3, RX10, cX10_chain, 2, (some .int), fun _ _ => True) (xQi x Q) 0 [(0, .ref (x.2.2.1 + 0)), (1, iV p1)] [] μ
  refine x_ran (fun n0 => ?_)
  have h := h n0 hp1
  refine x_aload_n 0 rfl dX10_chain_0 ?_
  refine x_getR (j := 2) (r := 39) ly0 (by decide) rfl rfl (by decide) inT10 fl_X10_25 dX10_chain_1 ?_
  refine x_iload_n 1 rfl dX10_chain_4 ?_
  refine x_callVz (As := [iV p1]) (rest := []) cal_X2_isWord ins_X2_isWord sel_X2_isWord ly39 (by decide) rfl (xX2_isWord x 39 p1 _ _ isHouse_39 hp1 h) rfl ml_X10_152 (xRoom (Nat.le_of_ble_eq_true rfl)) (Nat.le_of_ble_eq_true rfl) dX10_chain_5 (fun r3 μ1 i4 n2 h => ?_)
  have h := h i4 n2
  refine x_ifne (tgt := 17) (xIz i4)  dX10_chain_8 (by decide) (fun k5 => ?_) (fun k5 => ?_)
  · have h := h.1 (xz1 i4 k5)
    refine x_aload_n 0 rfl dX10_chain_17 ?_
    refine x_getR (j := 2) (r := 39) ly0 (by decide) rfl rfl (by decide) inT10 fl_X10_25 dX10_chain_18 ?_
    refine x_iload_n 1 rfl dX10_chain_21 ?_
    refine x_callVz (As := [iV p1]) (rest := []) cal_X2_isGood ins_X2_isGood sel_X2_isGood ly39 (by decide) rfl (xX2_isGood x 39 p1 _ _ isHouse_39 hp1 h) rfl ml_X10_164 (xRoom (Nat.le_of_ble_eq_true rfl)) (Nat.le_of_ble_eq_true rfl) dX10_chain_22 (fun r8 μ6 i9 n7 h => ?_)
    have h := h i9 n7
    refine x_ifne (tgt := 34) (xIz i9)  dX10_chain_25 (by decide) (fun k10 => ?_) (fun k10 => ?_)
    · have h := h.1 (xz1 i9 k10)
      refine x_aload_n 0 rfl dX10_chain_34 ?_
      refine x_aload_n 0 rfl dX10_chain_35 ?_
      refine x_getR (j := 3) (r := 73) ly0 (by decide) rfl rfl (by decide) inT10 fl_X10_31 dX10_chain_36 ?_
      refine x_iload_n 1 rfl dX10_chain_39 ?_
      refine x_callVi (As := [iV p1]) (rest := [.ref (x.2.2.1 + 0)]) cal_X1_chainOf ins_X1_chainOf sel_X1_chainOf ly73 (by decide) rfl (xX1_chainOf x p1 _ _ hp1 h) rfl ml_X10_174 (xRoom (Nat.le_of_ble_eq_true rfl)) (Nat.le_of_ble_eq_true rfl) dX10_chain_40 (fun r13 μ11 i14 n12 h => ?_)
      have h := h i14 n12
      refine x_callVi (As := [iV r13]) (rest := []) cal_X10_granted ins_X10_granted sel_X10_granted ly0 (by decide) rfl (xX10_granted x r13 _ _ i14 h) rfl ml_X10_140 (xRoom (Nat.le_of_ble_eq_true rfl)) (Nat.le_of_ble_eq_true rfl) dX10_chain_43 (fun r17 μ15 i18 n16 h => ?_)
      have h := h i18 n16
      exact x_iret h i18 rfl dX10_chain_46
    · have h := h.2 k10
      refine x_aload_n 0 rfl dX10_chain_28 ?_
      refine x_iconst dX10_chain_29 ?_
      refine x_callVi (As := [iV 5]) (rest := []) cal_X10_refused ins_X10_refused sel_X10_refused ly0 (by decide) rfl (xX10_refused x 5 _ _ ⟨by decide, by decide⟩ h) rfl ml_X10_116 (xRoom (Nat.le_of_ble_eq_true rfl)) (Nat.le_of_ble_eq_true rfl) dX10_chain_30 (fun r21 μ19 i22 n20 h => ?_)
      have h := h i22 n20
      exact x_iret h i22 rfl dX10_chain_33
  · have h := h.2 k5
    refine x_aload_n 0 rfl dX10_chain_11 ?_
    refine x_iconst dX10_chain_12 ?_
    refine x_callVi (As := [iV 1]) (rest := []) cal_X10_refused ins_X10_refused sel_X10_refused ly0 (by decide) rfl (xX10_refused x 1 _ _ ⟨by decide, by decide⟩ h) rfl ml_X10_116 (xRoom (Nat.le_of_ble_eq_true rfl)) (Nat.le_of_ble_eq_true rfl) dX10_chain_13 (fun r25 μ23 i26 n24 h => ?_)
    have h := h i26 n24
    exact x_iret h i26 rfl dX10_chain_16
set_option maxRecDepth 100000 in
set_option maxHeartbeats 4000000 in
theorem xX10_ladder (x : xX) (p1 : Int) (p2 : Int) (μ : xM) (Q : Int → xM → Prop) (hp1 : xIn p1) (hp2 : xIn p2) (h : tX10_ladder p1 p2 μ Q) : xMet x 5 yX10_ladder cX10_ladder 4 (some .int) [.ref (x.2.2.1 + 0), iV p1, iV p2] μ (xQi x Q) := by
  refine xMet_of (by decide +kernel) (Nat.le_of_ble_eq_true rfl) ?_
  show xW x (xRm 5, RX10, cX10_ladder, 4, (some .int), fun _ _ => True) (xQi x Q) 0 [(0, .ref (x.2.2.1 + 0)), (1, iV p1), (2, iV p2)] [] μ
  refine x_ran (fun n0 => ?_)
  have h := h n0 hp1 hp2
  refine x_aload_n 0 rfl dX10_ladder_0 ?_
  refine x_getR (j := 2) (r := 39) ly0 (by decide) rfl rfl (by decide) inT10 fl_X10_25 dX10_ladder_1 ?_
  refine x_iload_n 1 rfl dX10_ladder_4 ?_
  refine x_callVz (As := [iV p1]) (rest := []) cal_X2_isWord ins_X2_isWord sel_X2_isWord ly39 (by decide) rfl (xX2_isWord x 39 p1 _ _ isHouse_39 hp1 h) rfl ml_X10_152 (xRoom (Nat.le_of_ble_eq_true rfl)) (Nat.le_of_ble_eq_true rfl) dX10_ladder_5 (fun r3 μ1 i4 n2 h => ?_)
  have h := h i4 n2
  refine x_ifeq (tgt := 22) (xIz i4)  dX10_ladder_8 (by decide) (fun k5 => ?_) (fun k5 => ?_)
  · have h := h.1 k5
    refine x_aload_n 0 rfl dX10_ladder_22 ?_
    refine x_iconst dX10_ladder_23 ?_
    refine x_callVi (As := [iV 1]) (rest := []) cal_X10_refused ins_X10_refused sel_X10_refused ly0 (by decide) rfl (xX10_refused x 1 _ _ ⟨by decide, by decide⟩ h) rfl ml_X10_116 (xRoom (Nat.le_of_ble_eq_true rfl)) (Nat.le_of_ble_eq_true rfl) dX10_ladder_24 (fun r8 μ6 i9 n7 h => ?_)
    have h := h i9 n7
    exact x_iret h i9 rfl dX10_ladder_27
  · have h := h.2 (xz1 i4 k5)
    refine x_aload_n 0 rfl dX10_ladder_11 ?_
    refine x_getR (j := 2) (r := 39) ly0 (by decide) rfl rfl (by decide) inT10 fl_X10_25 dX10_ladder_12 ?_
    refine x_iload_n 2 rfl dX10_ladder_15 ?_
    refine x_callVz (As := [iV p2]) (rest := []) cal_X2_isWord ins_X2_isWord sel_X2_isWord ly39 (by decide) rfl (xX2_isWord x 39 p2 _ _ isHouse_39 hp2 h) rfl ml_X10_152 (xRoom (Nat.le_of_ble_eq_true rfl)) (Nat.le_of_ble_eq_true rfl) dX10_ladder_16 (fun r12 μ10 i13 n11 h => ?_)
    have h := h i13 n11
    refine x_ifne (tgt := 28) (xIz i13)  dX10_ladder_19 (by decide) (fun k14 => ?_) (fun k14 => ?_)
    · have h := h.1 (xz1 i13 k14)
      refine x_aload_n 0 rfl dX10_ladder_28 ?_
      refine x_getR (j := 2) (r := 39) ly0 (by decide) rfl rfl (by decide) inT10 fl_X10_25 dX10_ladder_29 ?_
      refine x_iload_n 1 rfl dX10_ladder_32 ?_
      refine x_callVz (As := [iV p1]) (rest := []) cal_X2_isGood ins_X2_isGood sel_X2_isGood ly39 (by decide) rfl (xX2_isGood x 39 p1 _ _ isHouse_39 hp1 h) rfl ml_X10_164 (xRoom (Nat.le_of_ble_eq_true rfl)) (Nat.le_of_ble_eq_true rfl) dX10_ladder_33 (fun r17 μ15 i18 n16 h => ?_)
      have h := h i18 n16
      refine x_ifeq (tgt := 50) (xIz i18)  dX10_ladder_36 (by decide) (fun k19 => ?_) (fun k19 => ?_)
      · have h := h.1 k19
        refine x_aload_n 0 rfl dX10_ladder_50 ?_
        refine x_iconst dX10_ladder_51 ?_
        refine x_callVi (As := [iV 5]) (rest := []) cal_X10_refused ins_X10_refused sel_X10_refused ly0 (by decide) rfl (xX10_refused x 5 _ _ ⟨by decide, by decide⟩ h) rfl ml_X10_116 (xRoom (Nat.le_of_ble_eq_true rfl)) (Nat.le_of_ble_eq_true rfl) dX10_ladder_52 (fun r22 μ20 i23 n21 h => ?_)
        have h := h i23 n21
        exact x_iret h i23 rfl dX10_ladder_55
      · have h := h.2 (xz1 i18 k19)
        refine x_aload_n 0 rfl dX10_ladder_39 ?_
        refine x_getR (j := 2) (r := 39) ly0 (by decide) rfl rfl (by decide) inT10 fl_X10_25 dX10_ladder_40 ?_
        refine x_iload_n 2 rfl dX10_ladder_43 ?_
        refine x_callVz (As := [iV p2]) (rest := []) cal_X2_isGood ins_X2_isGood sel_X2_isGood ly39 (by decide) rfl (xX2_isGood x 39 p2 _ _ isHouse_39 hp2 h) rfl ml_X10_164 (xRoom (Nat.le_of_ble_eq_true rfl)) (Nat.le_of_ble_eq_true rfl) dX10_ladder_44 (fun r26 μ24 i27 n25 h => ?_)
        have h := h i27 n25
        refine x_ifne (tgt := 56) (xIz i27)  dX10_ladder_47 (by decide) (fun k28 => ?_) (fun k28 => ?_)
        · have h := h.1 (xz1 i27 k28)
          refine x_aload_n 0 rfl dX10_ladder_56 ?_
          refine x_getR (j := 4) (r := 208) ly0 (by decide) rfl rfl (by decide) inT10 fl_X10_40 dX10_ladder_57 ?_
          refine x_iload_n 2 rfl dX10_ladder_60 ?_
          refine x_callVv (As := [iV p2]) (rest := []) cal_X3_measure ins_X3_measure sel_X3_measure ly208 (by decide) rfl (xX3_measure x p2 _ _ hp2 h) rfl ml_X10_177 (xRoom (Nat.le_of_ble_eq_true rfl)) (Nat.le_of_ble_eq_true rfl) dX10_ladder_61 (fun μ29 n30 h => ?_)
          have h := h n30
          refine x_aload_n 0 rfl dX10_ladder_64 ?_
          refine x_getR (j := 4) (r := 208) ly0 (by decide) rfl rfl (by decide) inT10 fl_X10_40 dX10_ladder_65 ?_
          refine x_iload_n 1 rfl dX10_ladder_68 ?_
          refine x_callVi (As := [iV p1]) (rest := []) cal_X3_farOf ins_X3_farOf sel_X3_farOf ly208 (by decide) rfl (xX3_farOf x p1 _ _ hp1 h) rfl ml_X10_180 (xRoom (Nat.le_of_ble_eq_true rfl)) (Nat.le_of_ble_eq_true rfl) dX10_ladder_69 (fun r33 μ31 i34 n32 h => ?_)
          have h := h i34 n32
          refine x_istore_n [(3, iV r33), (0, .ref (x.2.2.1 + 0)), (1, iV p1), (2, iV p2)] dX10_ladder_72 (show 3 < 4 by decide) rfl ?_
          refine x_aload_n 1 rfl dX10_ladder_73 ?_
          refine x_iload_n 0 rfl dX10_ladder_74 ?_
          refine x_ifge (tgt := 83) i34  dX10_ladder_75 (by decide) (fun k35 => ?_) (fun k35 => ?_)
          · have h := h.1 k35
            refine x_iload_n 0 rfl dX10_ladder_83 ?_
            refine x_callVi (As := [iV r33]) (rest := []) cal_X10_granted ins_X10_granted sel_X10_granted ly0 (by decide) rfl (xX10_granted x r33 _ _ i34 h) rfl ml_X10_140 (xRoom (Nat.le_of_ble_eq_true rfl)) (Nat.le_of_ble_eq_true rfl) dX10_ladder_84 (fun r38 μ36 i39 n37 h => ?_)
            have h := h i39 n37
            exact x_iret h i39 rfl dX10_ladder_87
          · have h := h.2 k35
            refine x_bipush dX10_ladder_78 (by decide) ?_
            refine x_goto (tgt := 84) dX10_ladder_80 (by decide) ?_
            refine x_callVi (As := [iV (-2)]) (rest := []) cal_X10_granted ins_X10_granted sel_X10_granted ly0 (by decide) rfl (xX10_granted x (-2) _ _ ⟨by decide, by decide⟩ h) rfl ml_X10_140 (xRoom (Nat.le_of_ble_eq_true rfl)) (Nat.le_of_ble_eq_true rfl) dX10_ladder_84 (fun r42 μ40 i43 n41 h => ?_)
            have h := h i43 n41
            exact x_iret h i43 rfl dX10_ladder_87
        · have h := h.2 k28
          refine x_aload_n 0 rfl dX10_ladder_50 ?_
          refine x_iconst dX10_ladder_51 ?_
          refine x_callVi (As := [iV 5]) (rest := []) cal_X10_refused ins_X10_refused sel_X10_refused ly0 (by decide) rfl (xX10_refused x 5 _ _ ⟨by decide, by decide⟩ h) rfl ml_X10_116 (xRoom (Nat.le_of_ble_eq_true rfl)) (Nat.le_of_ble_eq_true rfl) dX10_ladder_52 (fun r46 μ44 i47 n45 h => ?_)
          have h := h i47 n45
          exact x_iret h i47 rfl dX10_ladder_55
    · have h := h.2 k14
      refine x_aload_n 0 rfl dX10_ladder_22 ?_
      refine x_iconst dX10_ladder_23 ?_
      refine x_callVi (As := [iV 1]) (rest := []) cal_X10_refused ins_X10_refused sel_X10_refused ly0 (by decide) rfl (xX10_refused x 1 _ _ ⟨by decide, by decide⟩ h) rfl ml_X10_116 (xRoom (Nat.le_of_ble_eq_true rfl)) (Nat.le_of_ble_eq_true rfl) dX10_ladder_24 (fun r50 μ48 i51 n49 h => ?_)
      have h := h i51 n49
      exact x_iret h i51 rfl dX10_ladder_27
set_option maxRecDepth 100000 in
set_option maxHeartbeats 4000000 in
theorem xX10_rung (x : xX) (p1 : Int) (p2 : Int) (p3 : Int) (μ : xM) (Q : Int → xM → Prop) (hp1 : xIn p1) (hp2 : xIn p2) (hp3 : xIn p3) (h : tX10_rung p1 p2 p3 μ Q) : xMet x 6 yX10_rung cX10_rung 5 (some .int) [.ref (x.2.2.1 + 0), iV p1, iV p2, iV p3] μ (xQi x Q) := by
  refine xMet_of (by decide +kernel) (Nat.le_of_ble_eq_true rfl) ?_
  show xW x (xRm 6, RX10, cX10_rung, 5, (some .int), fun _ _ => True) (xQi x Q) 0 [(0, .ref (x.2.2.1 + 0)), (1, iV p1), (2, iV p2), (3, iV p3)] [] μ
  refine x_ran (fun n0 => ?_)
  have h := h n0 hp1 hp2 hp3
  refine x_aload_n 0 rfl dX10_rung_0 ?_
  refine x_getR (j := 2) (r := 39) ly0 (by decide) rfl rfl (by decide) inT10 fl_X10_25 dX10_rung_1 ?_
  refine x_iload_n 1 rfl dX10_rung_4 ?_
  refine x_callVz (As := [iV p1]) (rest := []) cal_X2_isWord ins_X2_isWord sel_X2_isWord ly39 (by decide) rfl (xX2_isWord x 39 p1 _ _ isHouse_39 hp1 h) rfl ml_X10_152 (xRoom (Nat.le_of_ble_eq_true rfl)) (Nat.le_of_ble_eq_true rfl) dX10_rung_5 (fun r3 μ1 i4 n2 h => ?_)
  have h := h i4 n2
  refine x_ifeq (tgt := 26) (xIz i4)  dX10_rung_8 (by decide) (fun k5 => ?_) (fun k5 => ?_)
  · have h := h.1 k5
    refine x_aload_n 0 rfl dX10_rung_26 ?_
    refine x_iconst dX10_rung_27 ?_
    refine x_callVi (As := [iV 1]) (rest := []) cal_X10_refused ins_X10_refused sel_X10_refused ly0 (by decide) rfl (xX10_refused x 1 _ _ ⟨by decide, by decide⟩ h) rfl ml_X10_116 (xRoom (Nat.le_of_ble_eq_true rfl)) (Nat.le_of_ble_eq_true rfl) dX10_rung_28 (fun r8 μ6 i9 n7 h => ?_)
    have h := h i9 n7
    exact x_iret h i9 rfl dX10_rung_31
  · have h := h.2 (xz1 i4 k5)
    refine x_aload_n 0 rfl dX10_rung_11 ?_
    refine x_getR (j := 2) (r := 39) ly0 (by decide) rfl rfl (by decide) inT10 fl_X10_25 dX10_rung_12 ?_
    refine x_iload_n 2 rfl dX10_rung_15 ?_
    refine x_callVz (As := [iV p2]) (rest := []) cal_X2_isWord ins_X2_isWord sel_X2_isWord ly39 (by decide) rfl (xX2_isWord x 39 p2 _ _ isHouse_39 hp2 h) rfl ml_X10_152 (xRoom (Nat.le_of_ble_eq_true rfl)) (Nat.le_of_ble_eq_true rfl) dX10_rung_16 (fun r12 μ10 i13 n11 h => ?_)
    have h := h i13 n11
    refine x_ifeq (tgt := 26) (xIz i13)  dX10_rung_19 (by decide) (fun k14 => ?_) (fun k14 => ?_)
    · have h := h.1 k14
      refine x_aload_n 0 rfl dX10_rung_26 ?_
      refine x_iconst dX10_rung_27 ?_
      refine x_callVi (As := [iV 1]) (rest := []) cal_X10_refused ins_X10_refused sel_X10_refused ly0 (by decide) rfl (xX10_refused x 1 _ _ ⟨by decide, by decide⟩ h) rfl ml_X10_116 (xRoom (Nat.le_of_ble_eq_true rfl)) (Nat.le_of_ble_eq_true rfl) dX10_rung_28 (fun r17 μ15 i18 n16 h => ?_)
      have h := h i18 n16
      exact x_iret h i18 rfl dX10_rung_31
    · have h := h.2 (xz1 i13 k14)
      refine x_iload_n 3 rfl dX10_rung_22 ?_
      refine x_ifge (tgt := 32) hp3  dX10_rung_23 (by decide) (fun k19 => ?_) (fun k19 => ?_)
      · have h := h.1 k19
        refine x_aload_n 0 rfl dX10_rung_32 ?_
        refine x_getR (j := 2) (r := 39) ly0 (by decide) rfl rfl (by decide) inT10 fl_X10_25 dX10_rung_33 ?_
        refine x_iload_n 1 rfl dX10_rung_36 ?_
        refine x_callVz (As := [iV p1]) (rest := []) cal_X2_isGood ins_X2_isGood sel_X2_isGood ly39 (by decide) rfl (xX2_isGood x 39 p1 _ _ isHouse_39 hp1 h) rfl ml_X10_164 (xRoom (Nat.le_of_ble_eq_true rfl)) (Nat.le_of_ble_eq_true rfl) dX10_rung_37 (fun r22 μ20 i23 n21 h => ?_)
        have h := h i23 n21
        refine x_ifeq (tgt := 54) (xIz i23)  dX10_rung_40 (by decide) (fun k24 => ?_) (fun k24 => ?_)
        · have h := h.1 k24
          refine x_aload_n 0 rfl dX10_rung_54 ?_
          refine x_iconst dX10_rung_55 ?_
          refine x_callVi (As := [iV 5]) (rest := []) cal_X10_refused ins_X10_refused sel_X10_refused ly0 (by decide) rfl (xX10_refused x 5 _ _ ⟨by decide, by decide⟩ h) rfl ml_X10_116 (xRoom (Nat.le_of_ble_eq_true rfl)) (Nat.le_of_ble_eq_true rfl) dX10_rung_56 (fun r27 μ25 i28 n26 h => ?_)
          have h := h i28 n26
          exact x_iret h i28 rfl dX10_rung_59
        · have h := h.2 (xz1 i23 k24)
          refine x_aload_n 0 rfl dX10_rung_43 ?_
          refine x_getR (j := 2) (r := 39) ly0 (by decide) rfl rfl (by decide) inT10 fl_X10_25 dX10_rung_44 ?_
          refine x_iload_n 2 rfl dX10_rung_47 ?_
          refine x_callVz (As := [iV p2]) (rest := []) cal_X2_isGood ins_X2_isGood sel_X2_isGood ly39 (by decide) rfl (xX2_isGood x 39 p2 _ _ isHouse_39 hp2 h) rfl ml_X10_164 (xRoom (Nat.le_of_ble_eq_true rfl)) (Nat.le_of_ble_eq_true rfl) dX10_rung_48 (fun r31 μ29 i32 n30 h => ?_)
          have h := h i32 n30
          refine x_ifne (tgt := 60) (xIz i32)  dX10_rung_51 (by decide) (fun k33 => ?_) (fun k33 => ?_)
          · have h := h.1 (xz1 i32 k33)
            refine x_aload_n 0 rfl dX10_rung_60 ?_
            refine x_getR (j := 4) (r := 208) ly0 (by decide) rfl rfl (by decide) inT10 fl_X10_40 dX10_rung_61 ?_
            refine x_iload_n 2 rfl dX10_rung_64 ?_
            refine x_callVv (As := [iV p2]) (rest := []) cal_X3_measure ins_X3_measure sel_X3_measure ly208 (by decide) rfl (xX3_measure x p2 _ _ hp2 h) rfl ml_X10_177 (xRoom (Nat.le_of_ble_eq_true rfl)) (Nat.le_of_ble_eq_true rfl) dX10_rung_65 (fun μ34 n35 h => ?_)
            have h := h n35
            refine x_aload_n 0 rfl dX10_rung_68 ?_
            refine x_getR (j := 4) (r := 208) ly0 (by decide) rfl rfl (by decide) inT10 fl_X10_40 dX10_rung_69 ?_
            refine x_iload_n 1 rfl dX10_rung_72 ?_
            refine x_callVi (As := [iV p1]) (rest := []) cal_X3_farOf ins_X3_farOf sel_X3_farOf ly208 (by decide) rfl (xX3_farOf x p1 _ _ hp1 h) rfl ml_X10_180 (xRoom (Nat.le_of_ble_eq_true rfl)) (Nat.le_of_ble_eq_true rfl) dX10_rung_73 (fun r38 μ36 i39 n37 h => ?_)
            have h := h i39 n37
            refine x_istore [(4, iV r38), (0, .ref (x.2.2.1 + 0)), (1, iV p1), (2, iV p2), (3, iV p3)] dX10_rung_76 (show 4 < 5 by decide) rfl ?_
            refine x_iload 0 rfl dX10_rung_78 ?_
            refine x_ifge (tgt := 90) i39  dX10_rung_80 (by decide) (fun k40 => ?_) (fun k40 => ?_)
            · have h := h.1 k40
              refine x_iload_n 4 rfl dX10_rung_90 ?_
              refine x_iload 0 rfl dX10_rung_91 ?_
              refine x_icmple (tgt := 102) hp3 i39 dX10_rung_93 (by decide) (fun k41 => ?_) (fun k41 => ?_)
              · have h := h.1 k41
                refine x_aload_n 1 rfl dX10_rung_102 ?_
                refine x_aload_n 1 rfl dX10_rung_103 ?_
                refine x_getR (j := 4) (r := 208) ly0 (by decide) rfl rfl (by decide) inT10 fl_X10_40 dX10_rung_104 ?_
                refine x_iload_n 2 rfl dX10_rung_107 ?_
                refine x_iload_n 4 rfl dX10_rung_108 ?_
                refine x_callVi (As := [iV p1, iV p3]) (rest := [.ref (x.2.2.1 + 0)]) cal_X3_after ins_X3_after sel_X3_after ly208 (by decide) rfl (xX3_after x p1 p3 _ _ hp1 hp3 h) rfl ml_X10_183 (xRoom (Nat.le_of_ble_eq_true rfl)) (Nat.le_of_ble_eq_true rfl) dX10_rung_109 (fun r44 μ42 i45 n43 h => ?_)
                have h := h i45 n43
                refine x_callVi (As := [iV r44]) (rest := []) cal_X10_granted ins_X10_granted sel_X10_granted ly0 (by decide) rfl (xX10_granted x r44 _ _ i45 h) rfl ml_X10_140 (xRoom (Nat.le_of_ble_eq_true rfl)) (Nat.le_of_ble_eq_true rfl) dX10_rung_112 (fun r48 μ46 i49 n47 h => ?_)
                have h := h i49 n47
                exact x_iret h i49 rfl dX10_rung_115
              · have h := h.2 k41
                refine x_aload_n 1 rfl dX10_rung_96 ?_
                refine x_iconst dX10_rung_97 ?_
                refine x_callVi (As := [iV 1]) (rest := []) cal_X10_refused ins_X10_refused sel_X10_refused ly0 (by decide) rfl (xX10_refused x 1 _ _ ⟨by decide, by decide⟩ h) rfl ml_X10_116 (xRoom (Nat.le_of_ble_eq_true rfl)) (Nat.le_of_ble_eq_true rfl) dX10_rung_98 (fun r52 μ50 i53 n51 h => ?_)
                have h := h i53 n51
                exact x_iret h i53 rfl dX10_rung_101
            · have h := h.2 k40
              refine x_aload_n 1 rfl dX10_rung_83 ?_
              refine x_bipush dX10_rung_84 (by decide) ?_
              refine x_callVi (As := [iV 6]) (rest := []) cal_X10_refused ins_X10_refused sel_X10_refused ly0 (by decide) rfl (xX10_refused x 6 _ _ ⟨by decide, by decide⟩ h) rfl ml_X10_116 (xRoom (Nat.le_of_ble_eq_true rfl)) (Nat.le_of_ble_eq_true rfl) dX10_rung_86 (fun r56 μ54 i57 n55 h => ?_)
              have h := h i57 n55
              exact x_iret h i57 rfl dX10_rung_89
          · have h := h.2 k33
            refine x_aload_n 0 rfl dX10_rung_54 ?_
            refine x_iconst dX10_rung_55 ?_
            refine x_callVi (As := [iV 5]) (rest := []) cal_X10_refused ins_X10_refused sel_X10_refused ly0 (by decide) rfl (xX10_refused x 5 _ _ ⟨by decide, by decide⟩ h) rfl ml_X10_116 (xRoom (Nat.le_of_ble_eq_true rfl)) (Nat.le_of_ble_eq_true rfl) dX10_rung_56 (fun r60 μ58 i61 n59 h => ?_)
            have h := h i61 n59
            exact x_iret h i61 rfl dX10_rung_59
      · have h := h.2 k19
        refine x_aload_n 0 rfl dX10_rung_26 ?_
        refine x_iconst dX10_rung_27 ?_
        refine x_callVi (As := [iV 1]) (rest := []) cal_X10_refused ins_X10_refused sel_X10_refused ly0 (by decide) rfl (xX10_refused x 1 _ _ ⟨by decide, by decide⟩ h) rfl ml_X10_116 (xRoom (Nat.le_of_ble_eq_true rfl)) (Nat.le_of_ble_eq_true rfl) dX10_rung_28 (fun r64 μ62 i65 n63 h => ?_)
        have h := h i65 n63
        exact x_iret h i65 rfl dX10_rung_31
set_option maxRecDepth 100000 in
set_option maxHeartbeats 4000000 in
theorem xX10_grundy_b32 (x : xX) (p1 : Int)  (μ : xM) (Q : Int → xM → Prop)  (hp1 : xIn p1)  (h : tX10_grundy_b32 p1  μ Q ) : xW x (xRm 3, RX10, cX10_grundy, 2, (some .int), fun _ _ => True) (xQi x Q) 32 [(0, .ref (x.2.2.1 + 0)), (1, iV p1)] [] μ := by
  refine x_ran (fun n0 => ?_)
  have h := h n0
  refine x_iload_n 1 rfl dX10_grundy_32 ?_
  refine x_iconst dX10_grundy_33 ?_
  refine x_icmpeq (tgt := 54) hp1 ⟨by decide, by decide⟩ dX10_grundy_34 (by decide) (fun k11 => ?_) (fun k11 => ?_)
  · have h := h.1 k11
    refine x_aload_n 0 rfl dX10_grundy_54 ?_
    refine x_aload_n 0 rfl dX10_grundy_55 ?_
    refine x_getR (j := 3) (r := 73) ly0 (by decide) rfl rfl (by decide) inT10 fl_X10_31 dX10_grundy_56 ?_
    refine x_iload_n 1 rfl dX10_grundy_59 ?_
    refine x_iconst dX10_grundy_60 ?_
    refine x_icmpne (tgt := 69) hp1 ⟨by decide, by decide⟩ dX10_grundy_61 (by decide) (fun k12 => ?_) (fun k12 => ?_)
    · have h := h.1 k12
      refine x_iload_n 1 rfl dX10_grundy_69 ?_
      refine x_callVi (As := [iV p1]) (rest := [.ref (x.2.2.1 + 0)]) cal_X1_nimOf ins_X1_nimOf sel_X1_nimOf ly73 (by decide) rfl (xX1_nimOf x p1 _ _ hp1 h) rfl ml_X10_190 (xRoom (Nat.le_of_ble_eq_true rfl)) (Nat.le_of_ble_eq_true rfl) dX10_grundy_70 (fun r15 μ13 i16 n14 h => ?_)
      have h := h i16 n14
      refine x_callVi (As := [iV r15]) (rest := []) cal_X10_granted ins_X10_granted sel_X10_granted ly0 (by decide) rfl (xX10_granted x r15 _ _ i16 h) rfl ml_X10_140 (xRoom (Nat.le_of_ble_eq_true rfl)) (Nat.le_of_ble_eq_true rfl) dX10_grundy_73 (fun r19 μ17 i20 n18 h => ?_)
      have h := h i20 n18
      exact x_iret h i20 rfl dX10_grundy_76
    · have h := h.2 k12
      refine x_bipush dX10_grundy_64 (by decide) ?_
      refine x_goto (tgt := 70) dX10_grundy_66 (by decide) ?_
      refine x_callVi (As := [iV 24]) (rest := [.ref (x.2.2.1 + 0)]) cal_X1_nimOf ins_X1_nimOf sel_X1_nimOf ly73 (by decide) rfl (xX1_nimOf x 24 _ _ ⟨by decide, by decide⟩ h) rfl ml_X10_190 (xRoom (Nat.le_of_ble_eq_true rfl)) (Nat.le_of_ble_eq_true rfl) dX10_grundy_70 (fun r23 μ21 i24 n22 h => ?_)
      have h := h i24 n22
      refine x_callVi (As := [iV r23]) (rest := []) cal_X10_granted ins_X10_granted sel_X10_granted ly0 (by decide) rfl (xX10_granted x r23 _ _ i24 h) rfl ml_X10_140 (xRoom (Nat.le_of_ble_eq_true rfl)) (Nat.le_of_ble_eq_true rfl) dX10_grundy_73 (fun r27 μ25 i28 n26 h => ?_)
      have h := h i28 n26
      exact x_iret h i28 rfl dX10_grundy_76
  · have h := h.2 k11
    refine x_aload_n 0 rfl dX10_grundy_37 ?_
    refine x_getR (j := 2) (r := 39) ly0 (by decide) rfl rfl (by decide) inT10 fl_X10_25 dX10_grundy_38 ?_
    refine x_iload_n 1 rfl dX10_grundy_41 ?_
    refine x_callVz (As := [iV p1]) (rest := []) cal_X2_isGood ins_X2_isGood sel_X2_isGood ly39 (by decide) rfl (xX2_isGood x 39 p1 _ _ isHouse_39 hp1 h) rfl ml_X10_164 (xRoom (Nat.le_of_ble_eq_true rfl)) (Nat.le_of_ble_eq_true rfl) dX10_grundy_42 (fun r31 μ29 i32 n30 h => ?_)
    have h := h i32 n30
    refine x_ifne (tgt := 54) (xIz i32)  dX10_grundy_45 (by decide) (fun k33 => ?_) (fun k33 => ?_)
    · have h := h.1 (xz1 i32 k33)
      refine x_aload_n 0 rfl dX10_grundy_54 ?_
      refine x_aload_n 0 rfl dX10_grundy_55 ?_
      refine x_getR (j := 3) (r := 73) ly0 (by decide) rfl rfl (by decide) inT10 fl_X10_31 dX10_grundy_56 ?_
      refine x_iload_n 1 rfl dX10_grundy_59 ?_
      refine x_iconst dX10_grundy_60 ?_
      refine x_icmpne (tgt := 69) hp1 ⟨by decide, by decide⟩ dX10_grundy_61 (by decide) (fun k34 => ?_) (fun k34 => ?_)
      · have h := h.1 k34
        refine x_iload_n 1 rfl dX10_grundy_69 ?_
        refine x_callVi (As := [iV p1]) (rest := [.ref (x.2.2.1 + 0)]) cal_X1_nimOf ins_X1_nimOf sel_X1_nimOf ly73 (by decide) rfl (xX1_nimOf x p1 _ _ hp1 h) rfl ml_X10_190 (xRoom (Nat.le_of_ble_eq_true rfl)) (Nat.le_of_ble_eq_true rfl) dX10_grundy_70 (fun r37 μ35 i38 n36 h => ?_)
        have h := h i38 n36
        refine x_callVi (As := [iV r37]) (rest := []) cal_X10_granted ins_X10_granted sel_X10_granted ly0 (by decide) rfl (xX10_granted x r37 _ _ i38 h) rfl ml_X10_140 (xRoom (Nat.le_of_ble_eq_true rfl)) (Nat.le_of_ble_eq_true rfl) dX10_grundy_73 (fun r41 μ39 i42 n40 h => ?_)
        have h := h i42 n40
        exact x_iret h i42 rfl dX10_grundy_76
      · have h := h.2 k34
        refine x_bipush dX10_grundy_64 (by decide) ?_
        refine x_goto (tgt := 70) dX10_grundy_66 (by decide) ?_
        refine x_callVi (As := [iV 24]) (rest := [.ref (x.2.2.1 + 0)]) cal_X1_nimOf ins_X1_nimOf sel_X1_nimOf ly73 (by decide) rfl (xX1_nimOf x 24 _ _ ⟨by decide, by decide⟩ h) rfl ml_X10_190 (xRoom (Nat.le_of_ble_eq_true rfl)) (Nat.le_of_ble_eq_true rfl) dX10_grundy_70 (fun r45 μ43 i46 n44 h => ?_)
        have h := h i46 n44
        refine x_callVi (As := [iV r45]) (rest := []) cal_X10_granted ins_X10_granted sel_X10_granted ly0 (by decide) rfl (xX10_granted x r45 _ _ i46 h) rfl ml_X10_140 (xRoom (Nat.le_of_ble_eq_true rfl)) (Nat.le_of_ble_eq_true rfl) dX10_grundy_73 (fun r49 μ47 i50 n48 h => ?_)
        have h := h i50 n48
        exact x_iret h i50 rfl dX10_grundy_76
    · have h := h.2 k33
      refine x_aload_n 0 rfl dX10_grundy_48 ?_
      refine x_iconst dX10_grundy_49 ?_
      refine x_callVi (As := [iV 5]) (rest := []) cal_X10_refused ins_X10_refused sel_X10_refused ly0 (by decide) rfl (xX10_refused x 5 _ _ ⟨by decide, by decide⟩ h) rfl ml_X10_116 (xRoom (Nat.le_of_ble_eq_true rfl)) (Nat.le_of_ble_eq_true rfl) dX10_grundy_50 (fun r53 μ51 i54 n52 h => ?_)
      have h := h i54 n52
      exact x_iret h i54 rfl dX10_grundy_53
set_option maxRecDepth 100000 in
set_option maxHeartbeats 4000000 in
theorem xX10_grundy (x : xX) (p1 : Int) (μ : xM) (Q : Int → xM → Prop) (hp1 : xIn p1) (h : tX10_grundy p1 μ Q) : xMet x 3 yX10_grundy cX10_grundy 2 (some .int) [.ref (x.2.2.1 + 0), iV p1] μ (xQi x Q) := by
  refine xMet_of (by decide +kernel) (Nat.le_of_ble_eq_true rfl) ?_
  show xW x (xRm 3, RX10, cX10_grundy, 2, (some .int), fun _ _ => True) (xQi x Q) 0 [(0, .ref (x.2.2.1 + 0)), (1, iV p1)] [] μ
  refine x_ran (fun n0 => ?_)
  have h := h n0 hp1
  refine x_aload_n 0 rfl dX10_grundy_0 ?_
  refine x_getR (j := 2) (r := 39) ly0 (by decide) rfl rfl (by decide) inT10 fl_X10_25 dX10_grundy_1 ?_
  refine x_callVz (As := []) (rest := []) cal_X2_isOpen ins_X2_isOpen sel_X2_isOpen ly39 (by decide) rfl (xX2_isOpen x 39 _ _ isHouse_39 h) rfl ml_X10_186 (xRoom (Nat.le_of_ble_eq_true rfl)) (Nat.le_of_ble_eq_true rfl) dX10_grundy_4 (fun r3 μ1 i4 n2 h => ?_)
  have h := h i4 n2
  refine x_ifeq (tgt := 26) (xIz i4)  dX10_grundy_7 (by decide) (fun k5 => ?_) (fun k5 => ?_)
  · have h := h.1 k5
    refine x_aload_n 0 rfl dX10_grundy_26 ?_
    refine x_iconst dX10_grundy_27 ?_
    refine x_callVi (As := [iV 1]) (rest := []) cal_X10_refused ins_X10_refused sel_X10_refused ly0 (by decide) rfl (xX10_refused x 1 _ _ ⟨by decide, by decide⟩ h) rfl ml_X10_116 (xRoom (Nat.le_of_ble_eq_true rfl)) (Nat.le_of_ble_eq_true rfl) dX10_grundy_28 (fun r8 μ6 i9 n7 h => ?_)
    have h := h i9 n7
    exact x_iret h i9 rfl dX10_grundy_31
  · have h := h.2 (xz1 i4 k5)
    refine x_iload_n 1 rfl dX10_grundy_10 ?_
    refine x_iconst dX10_grundy_11 ?_
    refine x_icmpeq (tgt := 32) hp1 ⟨by decide, by decide⟩ dX10_grundy_12 (by decide) (fun k10 => ?_) (fun k10 => ?_)
    · have h := h.1 k10
      exact x_sub [0, 1] rfl (xX10_grundy_b32 x p1 μ1 Q  hp1 h)
    · have h := h.2 k10
      refine x_aload_n 0 rfl dX10_grundy_15 ?_
      refine x_getR (j := 2) (r := 39) ly0 (by decide) rfl rfl (by decide) inT10 fl_X10_25 dX10_grundy_16 ?_
      refine x_iload_n 1 rfl dX10_grundy_19 ?_
      refine x_callVz (As := [iV p1]) (rest := []) cal_X2_isWord ins_X2_isWord sel_X2_isWord ly39 (by decide) rfl (xX2_isWord x 39 p1 _ _ isHouse_39 hp1 h) rfl ml_X10_152 (xRoom (Nat.le_of_ble_eq_true rfl)) (Nat.le_of_ble_eq_true rfl) dX10_grundy_20 (fun r57 μ55 i58 n56 h => ?_)
      have h := h i58 n56
      refine x_ifne (tgt := 32) (xIz i58)  dX10_grundy_23 (by decide) (fun k59 => ?_) (fun k59 => ?_)
      · have h := h.1 (xz1 i58 k59)
        exact x_sub [0, 1] rfl (xX10_grundy_b32 x p1 μ55 Q  hp1 h)
      · have h := h.2 k59
        refine x_aload_n 0 rfl dX10_grundy_26 ?_
        refine x_iconst dX10_grundy_27 ?_
        refine x_callVi (As := [iV 1]) (rest := []) cal_X10_refused ins_X10_refused sel_X10_refused ly0 (by decide) rfl (xX10_refused x 1 _ _ ⟨by decide, by decide⟩ h) rfl ml_X10_116 (xRoom (Nat.le_of_ble_eq_true rfl)) (Nat.le_of_ble_eq_true rfl) dX10_grundy_28 (fun r62 μ60 i63 n61 h => ?_)
        have h := h i63 n61
        exact x_iret h i63 rfl dX10_grundy_31
set_option maxRecDepth 100000 in
set_option maxHeartbeats 4000000 in
theorem xX10_offerGood (x : xX) (p1 : Nat) (p2 : Int) (μ : xM) (Q : xM → Prop) (hp1 : isSurvey p1) (hp2 : xIn p2) (h : tX10_offerGood p1 p2 μ Q) : xMet x 3 yX10_offerGood cX10_offerGood 4 none [.ref (x.2.2.1 + 0), .ref (x.2.2.1 + p1), iV p2] μ (xQv x Q) := by
  refine xMet_of (by decide +kernel) (Nat.le_of_ble_eq_true rfl) ?_
  show xW x (xRm 3, RX10, cX10_offerGood, 4, none, fun _ _ => True) (xQv x Q) 0 [(0, .ref (x.2.2.1 + 0)), (1, .ref (x.2.2.1 + p1)), (2, iV p2)] [] μ
  refine x_ran (fun n0 => ?_)
  have h := h n0 hp2
  refine x_iconst dX10_offerGood_0 ?_
  refine x_istore_n [(3, iV 0), (0, .ref (x.2.2.1 + 0)), (1, .ref (x.2.2.1 + p1)), (2, iV p2)] dX10_offerGood_1 (show 3 < 4 by decide) rfl ?_
  refine x_sub [1, 2, 3, 0] rfl ?_
  refine x_loop1 (fun l3_1 => [(0, .ref (x.2.2.1 + 0)), (1, .ref (x.2.2.1 + p1)), (2, iV p2), (3, iV l3_1)]) h (fun J2 l3_1 μ2 hJ2 h n3 => ?_)
  refine x_iload_n 3 rfl dX10_offerGood_2 ?_
  refine x_aload_n 0 rfl dX10_offerGood_3 ?_
  refine x_getR (j := 2) (r := 39) ly0 (by decide) rfl rfl (by decide) inT10 fl_X10_25 dX10_offerGood_4 ?_
  refine x_getI (j := 3) ly39 (by decide) rfl rfl (by decide) inT2 fl_X10_364 dX10_offerGood_7 (fun r4 => ?_)
  obtain ⟨c5, h⟩ := h
  refine x_icmpge (tgt := 47) c5 r4 dX10_offerGood_10 (by decide) (fun k6 => ?_) (fun k6 => ?_)
  · have h := h.1 k6
    exact x_vret h rfl dX10_offerGood_47
  · have h := h.2 k6
    refine x_aload_n 0 rfl dX10_offerGood_13 ?_
    refine x_getR (j := 2) (r := 39) ly0 (by decide) rfl rfl (by decide) inT10 fl_X10_25 dX10_offerGood_14 ?_
    refine x_iload_n 3 rfl dX10_offerGood_17 ?_
    refine x_callVz (As := [iV l3_1]) (rest := []) cal_X2_isGood ins_X2_isGood sel_X2_isGood ly39 (by decide) rfl (xX2_isGood x 39 l3_1 _ _ isHouse_39 c5 h) rfl ml_X10_164 (xRoom (Nat.le_of_ble_eq_true rfl)) (Nat.le_of_ble_eq_true rfl) dX10_offerGood_18 (fun r9 μ7 i10 n8 h => ?_)
    have h := h i10 n8
    refine x_ifeq (tgt := 41) (xIz i10)  dX10_offerGood_21 (by decide) (fun k11 => ?_) (fun k11 => ?_)
    · have h := h.1 k11
      refine x_iinc 3 rfl [(3, iV (l3_1 + 1)), (0, .ref (x.2.2.1 + 0)), (1, .ref (x.2.2.1 + p1)), (2, iV p2)] dX10_offerGood_41 (show 3 < 4 by decide) rfl ?_
      refine x_goto (tgt := 2) dX10_offerGood_44 (by decide) ?_
      exact x_sub [1, 2, 3, 0] rfl (hJ2 _ _ h)
    · have h := h.2 (xz1 i10 k11)
      refine x_aload_n 0 rfl dX10_offerGood_24 ?_
      refine x_getR (j := 3) (r := 73) ly0 (by decide) rfl rfl (by decide) inT10 fl_X10_31 dX10_offerGood_25 ?_
      refine x_iload_n 3 rfl dX10_offerGood_28 ?_
      refine x_callVi (As := [iV l3_1]) (rest := []) cal_X1_riseOf ins_X1_riseOf sel_X1_riseOf ly73 (by decide) rfl (xX1_riseOf x l3_1 _ _ c5 h) rfl ml_X10_274 (xRoom (Nat.le_of_ble_eq_true rfl)) (Nat.le_of_ble_eq_true rfl) dX10_offerGood_29 (fun r14 μ12 i15 n13 h => ?_)
      have h := h i15 n13
      refine x_iload_n 2 rfl dX10_offerGood_32 ?_
      refine x_icmpgt (tgt := 41) i15 hp2 dX10_offerGood_33 (by decide) (fun k16 => ?_) (fun k16 => ?_)
      · have h := h.1 k16
        refine x_iinc 3 rfl [(3, iV (l3_1 + 1)), (0, .ref (x.2.2.1 + 0)), (1, .ref (x.2.2.1 + p1)), (2, iV p2)] dX10_offerGood_41 (show 3 < 4 by decide) rfl ?_
        refine x_goto (tgt := 2) dX10_offerGood_44 (by decide) ?_
        exact x_sub [1, 2, 3, 0] rfl (hJ2 _ _ h)
      · have h := h.2 k16
        refine x_aload_n 1 rfl dX10_offerGood_36 ?_
        refine x_iload_n 3 rfl dX10_offerGood_37 ?_
        refine x_callVv (As := [iV l3_1]) (rest := []) cal_X9_offer ins_X9_offer sel_X9_offer hp1.1 (by have := hp1.2.1; omega) rfl (xX9_offer x p1 l3_1 _ _ hp1 c5 h) rfl ml_X10_379 (xRoom (Nat.le_of_ble_eq_true rfl)) (Nat.le_of_ble_eq_true rfl) dX10_offerGood_38 (fun μ17 n18 h => ?_)
        have h := h n18
        refine x_iinc 3 rfl [(3, iV (l3_1 + 1)), (0, .ref (x.2.2.1 + 0)), (1, .ref (x.2.2.1 + p1)), (2, iV p2)] dX10_offerGood_41 (show 3 < 4 by decide) rfl ?_
        refine x_goto (tgt := 2) dX10_offerGood_44 (by decide) ?_
        exact x_sub [1, 2, 3, 0] rfl (hJ2 _ _ h)
set_option maxRecDepth 100000 in
set_option maxHeartbeats 4000000 in
theorem xX10_bestPlan (x : xX)  (μ : xM) (Q : Nat → xM → Prop)  (h : tX10_bestPlan  μ Q) : xMet x 20 yX10_bestPlan cX10_bestPlan 1 (some (.object "WordTables$Survey")) [.ref (x.2.2.1 + 0)] μ (xQr x Q) := by
  refine xMet_of (by decide +kernel) (Nat.le_of_ble_eq_true rfl) ?_
  show xW x (xRm 20, RX10, cX10_bestPlan, 1, (some (.object "WordTables$Survey")), fun _ _ => True) (xQr x Q) 0 [(0, .ref (x.2.2.1 + 0))] [] μ
  refine x_ran (fun n0 => ?_)
  have h := h n0 
  refine x_aload_n 0 rfl dX10_bestPlan_0 ?_
  refine x_getR (j := 5) (r := 211) ly0 (by decide) rfl rfl (by decide) inT10 fl_X10_47 dX10_bestPlan_1 ?_
  refine x_getI (j := 0) ly211 (by decide) rfl rfl (by decide) inT9 fl_X10_270 dX10_bestPlan_4 (fun r1 => ?_)
  refine x_ifne (tgt := 35) r1  dX10_bestPlan_7 (by decide) (fun k2 => ?_) (fun k2 => ?_)
  · have h := h.1 k2
    refine x_aload_n 0 rfl dX10_bestPlan_35 ?_
    refine x_getR (j := 5) (r := 211) ly0 (by decide) rfl rfl (by decide) inT10 fl_X10_47 dX10_bestPlan_36 ?_
    exact x_aret h rfl (Or.inl ⟨_, rfl⟩) dX10_bestPlan_39
  · have h := h.2 k2
    refine x_aload_n 0 rfl dX10_bestPlan_10 ?_
    refine x_getR (j := 5) (r := 211) ly0 (by decide) rfl rfl (by decide) inT10 fl_X10_47 dX10_bestPlan_11 ?_
    refine x_iconst dX10_bestPlan_14 ?_
    refine x_callVv (As := [iV (-1)]) (rest := []) cal_X9_gather ins_X9_gather sel_X9_gather ly211 (by decide) rfl (xX9_gather x 211 (-1) _ _ isSurvey_211 ⟨by decide, by decide⟩ h) rfl ml_X10_224 (xRoom (Nat.le_of_ble_eq_true rfl)) (Nat.le_of_ble_eq_true rfl) dX10_bestPlan_15 (fun μ3 n4 h => ?_)
    have h := h n4
    refine x_aload_n 0 rfl dX10_bestPlan_18 ?_
    refine x_aload_n 0 rfl dX10_bestPlan_19 ?_
    refine x_getR (j := 5) (r := 211) ly0 (by decide) rfl rfl (by decide) inT10 fl_X10_47 dX10_bestPlan_20 ?_
    refine x_bipush dX10_bestPlan_23 (by decide) ?_
    refine x_callVv (As := [.ref (x.2.2.1 + 211), iV 6]) (rest := []) cal_X10_offerGood ins_X10_offerGood sel_X10_offerGood ly0 (by decide) rfl (xX10_offerGood x 211 6 _ _ isSurvey_211 ⟨by decide, by decide⟩ h) rfl ml_X10_227 (xRoom (Nat.le_of_ble_eq_true rfl)) (Nat.le_of_ble_eq_true rfl) dX10_bestPlan_25 (fun μ5 n6 h => ?_)
    have h := h n6
    refine x_aload_n 0 rfl dX10_bestPlan_28 ?_
    refine x_getR (j := 5) (r := 211) ly0 (by decide) rfl rfl (by decide) inT10 fl_X10_47 dX10_bestPlan_29 ?_
    refine x_callVv (As := []) (rest := []) cal_X9_findPlans ins_X9_findPlans sel_X9_findPlans ly211 (by decide) rfl (xX9_findPlans x 211 _ _ isSurvey_211 h) rfl ml_X10_231 (xRoom (Nat.le_of_ble_eq_true rfl)) (Nat.le_of_ble_eq_true rfl) dX10_bestPlan_32 (fun μ7 n8 h => ?_)
    have h := h n8
    refine x_aload_n 0 rfl dX10_bestPlan_35 ?_
    refine x_getR (j := 5) (r := 211) ly0 (by decide) rfl rfl (by decide) inT10 fl_X10_47 dX10_bestPlan_36 ?_
    exact x_aret h rfl (Or.inl ⟨_, rfl⟩) dX10_bestPlan_39
set_option maxRecDepth 100000 in
set_option maxHeartbeats 4000000 in
theorem xX10_most (x : xX)  (μ : xM) (Q : Int → xM → Prop)  (h : tX10_most  μ Q) : xMet x 21 yX10_most cX10_most 1 (some .int) [.ref (x.2.2.1 + 0)] μ (xQi x Q) := by
  refine xMet_of (by decide +kernel) (Nat.le_of_ble_eq_true rfl) ?_
  show xW x (xRm 21, RX10, cX10_most, 1, (some .int), fun _ _ => True) (xQi x Q) 0 [(0, .ref (x.2.2.1 + 0))] [] μ
  refine x_ran (fun n0 => ?_)
  have h := h n0 
  refine x_aload_n 0 rfl dX10_most_0 ?_
  refine x_getR (j := 2) (r := 39) ly0 (by decide) rfl rfl (by decide) inT10 fl_X10_25 dX10_most_1 ?_
  refine x_callVz (As := []) (rest := []) cal_X2_isOpen ins_X2_isOpen sel_X2_isOpen ly39 (by decide) rfl (xX2_isOpen x 39 _ _ isHouse_39 h) rfl ml_X10_186 (xRoom (Nat.le_of_ble_eq_true rfl)) (Nat.le_of_ble_eq_true rfl) dX10_most_4 (fun r3 μ1 i4 n2 h => ?_)
  have h := h i4 n2
  refine x_ifeq (tgt := 24) (xIz i4)  dX10_most_7 (by decide) (fun k5 => ?_) (fun k5 => ?_)
  · have h := h.1 k5
    refine x_aload_n 0 rfl dX10_most_24 ?_
    refine x_iconst dX10_most_25 ?_
    refine x_callVi (As := [iV 1]) (rest := []) cal_X10_refused ins_X10_refused sel_X10_refused ly0 (by decide) rfl (xX10_refused x 1 _ _ ⟨by decide, by decide⟩ h) rfl ml_X10_116 (xRoom (Nat.le_of_ble_eq_true rfl)) (Nat.le_of_ble_eq_true rfl) dX10_most_26 (fun r8 μ6 i9 n7 h => ?_)
    have h := h i9 n7
    exact x_iret h i9 rfl dX10_most_29
  · have h := h.2 (xz1 i4 k5)
    refine x_aload_n 0 rfl dX10_most_10 ?_
    refine x_aload_n 0 rfl dX10_most_11 ?_
    refine x_callVr (As := []) (rest := [.ref (x.2.2.1 + 0)]) cal_X10_bestPlan ins_X10_bestPlan sel_X10_bestPlan ly0 (by decide) rfl (xX10_bestPlan x  _ _  h) rfl ml_X10_193 (xRoom (Nat.le_of_ble_eq_true rfl)) (Nat.le_of_ble_eq_true rfl) dX10_most_12 (fun r12 μ10 n11 h => ?_)
    obtain ⟨g13, hwg13⟩ := h n11
    subst g13
    have h := hwg13
    refine x_getI (j := 1) ly211 (by decide) rfl rfl (by decide) inT9 fl_X10_197 dX10_most_15 (fun r14 => ?_)
    refine x_callVi (As := [iV (μ10 211 1)]) (rest := []) cal_X10_granted ins_X10_granted sel_X10_granted ly0 (by decide) rfl (xX10_granted x (μ10 211 1) _ _ r14 h) rfl ml_X10_140 (xRoom (Nat.le_of_ble_eq_true rfl)) (Nat.le_of_ble_eq_true rfl) dX10_most_18 (fun r17 μ15 i18 n16 h => ?_)
    have h := h i18 n16
    refine x_goto (tgt := 29) dX10_most_21 (by decide) ?_
    exact x_iret h i18 rfl dX10_most_29
set_option maxRecDepth 100000 in
set_option maxHeartbeats 4000000 in
theorem xX10_worth (x : xX)  (μ : xM) (Q : Int → xM → Prop)  (h : tX10_worth  μ Q) : xMet x 21 yX10_worth cX10_worth 1 (some .int) [.ref (x.2.2.1 + 0)] μ (xQi x Q) := by
  refine xMet_of (by decide +kernel) (Nat.le_of_ble_eq_true rfl) ?_
  show xW x (xRm 21, RX10, cX10_worth, 1, (some .int), fun _ _ => True) (xQi x Q) 0 [(0, .ref (x.2.2.1 + 0))] [] μ
  refine x_ran (fun n0 => ?_)
  have h := h n0 
  refine x_aload_n 0 rfl dX10_worth_0 ?_
  refine x_getR (j := 2) (r := 39) ly0 (by decide) rfl rfl (by decide) inT10 fl_X10_25 dX10_worth_1 ?_
  refine x_callVz (As := []) (rest := []) cal_X2_isOpen ins_X2_isOpen sel_X2_isOpen ly39 (by decide) rfl (xX2_isOpen x 39 _ _ isHouse_39 h) rfl ml_X10_186 (xRoom (Nat.le_of_ble_eq_true rfl)) (Nat.le_of_ble_eq_true rfl) dX10_worth_4 (fun r3 μ1 i4 n2 h => ?_)
  have h := h i4 n2
  refine x_ifeq (tgt := 24) (xIz i4)  dX10_worth_7 (by decide) (fun k5 => ?_) (fun k5 => ?_)
  · have h := h.1 k5
    refine x_aload_n 0 rfl dX10_worth_24 ?_
    refine x_iconst dX10_worth_25 ?_
    refine x_callVi (As := [iV 1]) (rest := []) cal_X10_refused ins_X10_refused sel_X10_refused ly0 (by decide) rfl (xX10_refused x 1 _ _ ⟨by decide, by decide⟩ h) rfl ml_X10_116 (xRoom (Nat.le_of_ble_eq_true rfl)) (Nat.le_of_ble_eq_true rfl) dX10_worth_26 (fun r8 μ6 i9 n7 h => ?_)
    have h := h i9 n7
    exact x_iret h i9 rfl dX10_worth_29
  · have h := h.2 (xz1 i4 k5)
    refine x_aload_n 0 rfl dX10_worth_10 ?_
    refine x_aload_n 0 rfl dX10_worth_11 ?_
    refine x_callVr (As := []) (rest := [.ref (x.2.2.1 + 0)]) cal_X10_bestPlan ins_X10_bestPlan sel_X10_bestPlan ly0 (by decide) rfl (xX10_bestPlan x  _ _  h) rfl ml_X10_193 (xRoom (Nat.le_of_ble_eq_true rfl)) (Nat.le_of_ble_eq_true rfl) dX10_worth_12 (fun r12 μ10 n11 h => ?_)
    obtain ⟨g13, hwg13⟩ := h n11
    subst g13
    have h := hwg13
    refine x_getI (j := 2) ly211 (by decide) rfl rfl (by decide) inT9 fl_X10_200 dX10_worth_15 (fun r14 => ?_)
    refine x_callVi (As := [iV (μ10 211 2)]) (rest := []) cal_X10_granted ins_X10_granted sel_X10_granted ly0 (by decide) rfl (xX10_granted x (μ10 211 2) _ _ r14 h) rfl ml_X10_140 (xRoom (Nat.le_of_ble_eq_true rfl)) (Nat.le_of_ble_eq_true rfl) dX10_worth_18 (fun r17 μ15 i18 n16 h => ?_)
    have h := h i18 n16
    refine x_goto (tgt := 29) dX10_worth_21 (by decide) ?_
    exact x_iret h i18 rfl dX10_worth_29
set_option maxRecDepth 100000 in
set_option maxHeartbeats 4000000 in
theorem xX10_plan (x : xX) (p1 : Int) (μ : xM) (Q : Int → xM → Prop) (hp1 : xIn p1) (h : tX10_plan p1 μ Q) : xMet x 21 yX10_plan cX10_plan 3 (some .int) [.ref (x.2.2.1 + 0), iV p1] μ (xQi x Q) := by
  refine xMet_of (by decide +kernel) (Nat.le_of_ble_eq_true rfl) ?_
  show xW x (xRm 21, RX10, cX10_plan, 3, (some .int), fun _ _ => True) (xQi x Q) 0 [(0, .ref (x.2.2.1 + 0)), (1, iV p1)] [] μ
  refine x_ran (fun n0 => ?_)
  have h := h n0 hp1
  refine x_iload_n 1 rfl dX10_plan_0 ?_
  refine x_iflt (tgt := 15) hp1  dX10_plan_1 (by decide) (fun k1 => ?_) (fun k1 => ?_)
  · have h := h.1 k1
    refine x_aload_n 0 rfl dX10_plan_15 ?_
    refine x_iconst dX10_plan_16 ?_
    refine x_callVi (As := [iV 1]) (rest := []) cal_X10_refused ins_X10_refused sel_X10_refused ly0 (by decide) rfl (xX10_refused x 1 _ _ ⟨by decide, by decide⟩ h) rfl ml_X10_116 (xRoom (Nat.le_of_ble_eq_true rfl)) (Nat.le_of_ble_eq_true rfl) dX10_plan_17 (fun r4 μ2 i5 n3 h => ?_)
    have h := h i5 n3
    exact x_iret h i5 rfl dX10_plan_20
  · have h := h.2 k1
    refine x_iload_n 1 rfl dX10_plan_4 ?_
    refine x_aload_n 0 rfl dX10_plan_5 ?_
    refine x_getR (j := 2) (r := 39) ly0 (by decide) rfl rfl (by decide) inT10 fl_X10_25 dX10_plan_6 ?_
    refine x_getI (j := 0) ly39 (by decide) rfl rfl (by decide) inT2 fl_X10_203 dX10_plan_9 (fun r6 => ?_)
    refine x_icmplt (tgt := 21) hp1 r6 dX10_plan_12 (by decide) (fun k7 => ?_) (fun k7 => ?_)
    · have h := h.1 k7
      refine x_aload_n 0 rfl dX10_plan_21 ?_
      refine x_callVr (As := []) (rest := []) cal_X10_bestPlan ins_X10_bestPlan sel_X10_bestPlan ly0 (by decide) rfl (xX10_bestPlan x  _ _  h) rfl ml_X10_193 (xRoom (Nat.le_of_ble_eq_true rfl)) (Nat.le_of_ble_eq_true rfl) dX10_plan_22 (fun r10 μ8 n9 h => ?_)
      obtain ⟨g11, hwg11⟩ := h n9
      subst g11
      have h := hwg11
      refine x_iload_n 1 rfl dX10_plan_25 ?_
      refine x_callVi (As := [iV p1]) (rest := []) cal_X9_foundAt ins_X9_foundAt sel_X9_foundAt ly211 (by decide) rfl (xX9_foundAt x 211 p1 _ _ isSurvey_211 hp1 h) rfl ml_X10_206 (xRoom (Nat.le_of_ble_eq_true rfl)) (Nat.le_of_ble_eq_true rfl) dX10_plan_26 (fun r14 μ12 i15 n13 h => ?_)
      have h := h i15 n13
      refine x_istore_n [(2, iV r14), (0, .ref (x.2.2.1 + 0)), (1, iV p1)] dX10_plan_29 (show 2 < 3 by decide) rfl ?_
      refine x_aload_n 1 rfl dX10_plan_30 ?_
      refine x_iload_n 0 rfl dX10_plan_31 ?_
      refine x_bipush dX10_plan_32 (by decide) ?_
      refine x_icmpne (tgt := 42) i15 ⟨by decide, by decide⟩ dX10_plan_34 (by decide) (fun k16 => ?_) (fun k16 => ?_)
      · have h := h.1 k16
        refine x_iload_n 0 rfl dX10_plan_42 ?_
        refine x_callVi (As := [iV r14]) (rest := []) cal_X10_granted ins_X10_granted sel_X10_granted ly0 (by decide) rfl (xX10_granted x r14 _ _ i15 h) rfl ml_X10_140 (xRoom (Nat.le_of_ble_eq_true rfl)) (Nat.le_of_ble_eq_true rfl) dX10_plan_43 (fun r19 μ17 i20 n18 h => ?_)
        have h := h i20 n18
        exact x_iret h i20 rfl dX10_plan_46
      · have h := h.2 k16
        refine x_bipush dX10_plan_37 (by decide) ?_
        refine x_goto (tgt := 43) dX10_plan_39 (by decide) ?_
        refine x_callVi (As := [iV (-2)]) (rest := []) cal_X10_granted ins_X10_granted sel_X10_granted ly0 (by decide) rfl (xX10_granted x (-2) _ _ ⟨by decide, by decide⟩ h) rfl ml_X10_140 (xRoom (Nat.le_of_ble_eq_true rfl)) (Nat.le_of_ble_eq_true rfl) dX10_plan_43 (fun r23 μ21 i24 n22 h => ?_)
        have h := h i24 n22
        exact x_iret h i24 rfl dX10_plan_46
    · have h := h.2 k7
      refine x_aload_n 0 rfl dX10_plan_15 ?_
      refine x_iconst dX10_plan_16 ?_
      refine x_callVi (As := [iV 1]) (rest := []) cal_X10_refused ins_X10_refused sel_X10_refused ly0 (by decide) rfl (xX10_refused x 1 _ _ ⟨by decide, by decide⟩ h) rfl ml_X10_116 (xRoom (Nat.le_of_ble_eq_true rfl)) (Nat.le_of_ble_eq_true rfl) dX10_plan_17 (fun r27 μ25 i28 n26 h => ?_)
      have h := h i28 n26
      exact x_iret h i28 rfl dX10_plan_20
set_option maxRecDepth 100000 in
set_option maxHeartbeats 4000000 in
theorem xX10_richest (x : xX)  (μ : xM) (Q : Int → xM → Prop)  (h : tX10_richest  μ Q) : xMet x 21 yX10_richest cX10_richest 1 (some .int) [.ref (x.2.2.1 + 0)] μ (xQi x Q) := by
  refine xMet_of (by decide +kernel) (Nat.le_of_ble_eq_true rfl) ?_
  show xW x (xRm 21, RX10, cX10_richest, 1, (some .int), fun _ _ => True) (xQi x Q) 0 [(0, .ref (x.2.2.1 + 0))] [] μ
  refine x_ran (fun n0 => ?_)
  have h := h n0 
  refine x_aload_n 0 rfl dX10_richest_0 ?_
  refine x_getR (j := 2) (r := 39) ly0 (by decide) rfl rfl (by decide) inT10 fl_X10_25 dX10_richest_1 ?_
  refine x_callVz (As := []) (rest := []) cal_X2_isOpen ins_X2_isOpen sel_X2_isOpen ly39 (by decide) rfl (xX2_isOpen x 39 _ _ isHouse_39 h) rfl ml_X10_186 (xRoom (Nat.le_of_ble_eq_true rfl)) (Nat.le_of_ble_eq_true rfl) dX10_richest_4 (fun r3 μ1 i4 n2 h => ?_)
  have h := h i4 n2
  refine x_ifeq (tgt := 24) (xIz i4)  dX10_richest_7 (by decide) (fun k5 => ?_) (fun k5 => ?_)
  · have h := h.1 k5
    refine x_aload_n 0 rfl dX10_richest_24 ?_
    refine x_iconst dX10_richest_25 ?_
    refine x_callVi (As := [iV 1]) (rest := []) cal_X10_refused ins_X10_refused sel_X10_refused ly0 (by decide) rfl (xX10_refused x 1 _ _ ⟨by decide, by decide⟩ h) rfl ml_X10_116 (xRoom (Nat.le_of_ble_eq_true rfl)) (Nat.le_of_ble_eq_true rfl) dX10_richest_26 (fun r8 μ6 i9 n7 h => ?_)
    have h := h i9 n7
    exact x_iret h i9 rfl dX10_richest_29
  · have h := h.2 (xz1 i4 k5)
    refine x_aload_n 0 rfl dX10_richest_10 ?_
    refine x_aload_n 0 rfl dX10_richest_11 ?_
    refine x_callVr (As := []) (rest := [.ref (x.2.2.1 + 0)]) cal_X10_bestPlan ins_X10_bestPlan sel_X10_bestPlan ly0 (by decide) rfl (xX10_bestPlan x  _ _  h) rfl ml_X10_193 (xRoom (Nat.le_of_ble_eq_true rfl)) (Nat.le_of_ble_eq_true rfl) dX10_richest_12 (fun r12 μ10 n11 h => ?_)
    obtain ⟨g13, hwg13⟩ := h n11
    subst g13
    have h := hwg13
    refine x_getI (j := 3) ly211 (by decide) rfl rfl (by decide) inT9 fl_X10_209 dX10_richest_15 (fun r14 => ?_)
    refine x_callVi (As := [iV (μ10 211 3)]) (rest := []) cal_X10_granted ins_X10_granted sel_X10_granted ly0 (by decide) rfl (xX10_granted x (μ10 211 3) _ _ r14 h) rfl ml_X10_140 (xRoom (Nat.le_of_ble_eq_true rfl)) (Nat.le_of_ble_eq_true rfl) dX10_richest_18 (fun r17 μ15 i18 n16 h => ?_)
    have h := h i18 n16
    refine x_goto (tgt := 29) dX10_richest_21 (by decide) ?_
    exact x_iret h i18 rfl dX10_richest_29
set_option maxRecDepth 100000 in
set_option maxHeartbeats 4000000 in
theorem xX10_fewest (x : xX)  (μ : xM) (Q : Int → xM → Prop)  (h : tX10_fewest  μ Q) : xMet x 21 yX10_fewest cX10_fewest 2 (some .int) [.ref (x.2.2.1 + 0)] μ (xQi x Q) := by
  refine xMet_of (by decide +kernel) (Nat.le_of_ble_eq_true rfl) ?_
  show xW x (xRm 21, RX10, cX10_fewest, 2, (some .int), fun _ _ => True) (xQi x Q) 0 [(0, .ref (x.2.2.1 + 0))] [] μ
  refine x_ran (fun n0 => ?_)
  have h := h n0 
  refine x_aload_n 0 rfl dX10_fewest_0 ?_
  refine x_getR (j := 2) (r := 39) ly0 (by decide) rfl rfl (by decide) inT10 fl_X10_25 dX10_fewest_1 ?_
  refine x_callVz (As := []) (rest := []) cal_X2_isOpen ins_X2_isOpen sel_X2_isOpen ly39 (by decide) rfl (xX2_isOpen x 39 _ _ isHouse_39 h) rfl ml_X10_186 (xRoom (Nat.le_of_ble_eq_true rfl)) (Nat.le_of_ble_eq_true rfl) dX10_fewest_4 (fun r3 μ1 i4 n2 h => ?_)
  have h := h i4 n2
  refine x_ifne (tgt := 16) (xIz i4)  dX10_fewest_7 (by decide) (fun k5 => ?_) (fun k5 => ?_)
  · have h := h.1 (xz1 i4 k5)
    refine x_aload_n 0 rfl dX10_fewest_16 ?_
    refine x_callVr (As := []) (rest := []) cal_X10_bestPlan ins_X10_bestPlan sel_X10_bestPlan ly0 (by decide) rfl (xX10_bestPlan x  _ _  h) rfl ml_X10_193 (xRoom (Nat.le_of_ble_eq_true rfl)) (Nat.le_of_ble_eq_true rfl) dX10_fewest_17 (fun r8 μ6 n7 h => ?_)
    obtain ⟨g9, hwg9⟩ := h n7
    subst g9
    have h := hwg9
    refine x_getI (j := 4) ly211 (by decide) rfl rfl (by decide) inT9 fl_X10_212 dX10_fewest_20 (fun r10 => ?_)
    refine x_istore_n [(1, iV (μ6 211 4)), (0, .ref (x.2.2.1 + 0))] dX10_fewest_23 (show 1 < 2 by decide) rfl ?_
    refine x_aload_n 1 rfl dX10_fewest_24 ?_
    refine x_iload_n 0 rfl dX10_fewest_25 ?_
    refine x_iconst dX10_fewest_26 ?_
    refine x_icmple (tgt := 35) r10 ⟨by decide, by decide⟩ dX10_fewest_27 (by decide) (fun k11 => ?_) (fun k11 => ?_)
    · have h := h.1 k11
      refine x_iload_n 0 rfl dX10_fewest_35 ?_
      refine x_callVi (As := [iV (μ6 211 4)]) (rest := []) cal_X10_granted ins_X10_granted sel_X10_granted ly0 (by decide) rfl (xX10_granted x (μ6 211 4) _ _ r10 h) rfl ml_X10_140 (xRoom (Nat.le_of_ble_eq_true rfl)) (Nat.le_of_ble_eq_true rfl) dX10_fewest_36 (fun r14 μ12 i15 n13 h => ?_)
      have h := h i15 n13
      exact x_iret h i15 rfl dX10_fewest_39
    · have h := h.2 k11
      refine x_bipush dX10_fewest_30 (by decide) ?_
      refine x_goto (tgt := 36) dX10_fewest_32 (by decide) ?_
      refine x_callVi (As := [iV (-2)]) (rest := []) cal_X10_granted ins_X10_granted sel_X10_granted ly0 (by decide) rfl (xX10_granted x (-2) _ _ ⟨by decide, by decide⟩ h) rfl ml_X10_140 (xRoom (Nat.le_of_ble_eq_true rfl)) (Nat.le_of_ble_eq_true rfl) dX10_fewest_36 (fun r18 μ16 i19 n17 h => ?_)
      have h := h i19 n17
      exact x_iret h i19 rfl dX10_fewest_39
  · have h := h.2 k5
    refine x_aload_n 0 rfl dX10_fewest_10 ?_
    refine x_iconst dX10_fewest_11 ?_
    refine x_callVi (As := [iV 1]) (rest := []) cal_X10_refused ins_X10_refused sel_X10_refused ly0 (by decide) rfl (xX10_refused x 1 _ _ ⟨by decide, by decide⟩ h) rfl ml_X10_116 (xRoom (Nat.le_of_ble_eq_true rfl)) (Nat.le_of_ble_eq_true rfl) dX10_fewest_12 (fun r22 μ20 i23 n21 h => ?_)
    have h := h i23 n21
    exact x_iret h i23 rfl dX10_fewest_15
set_option maxRecDepth 100000 in
set_option maxHeartbeats 4000000 in
theorem xX10_lackingPlan (x : xX)  (μ : xM) (Q : Nat → xM → Prop)  (h : tX10_lackingPlan  μ Q) : xMet x 20 yX10_lackingPlan cX10_lackingPlan 1 (some (.object "WordTables$Survey")) [.ref (x.2.2.1 + 0)] μ (xQr x Q) := by
  refine xMet_of (by decide +kernel) (Nat.le_of_ble_eq_true rfl) ?_
  show xW x (xRm 20, RX10, cX10_lackingPlan, 1, (some (.object "WordTables$Survey")), fun _ _ => True) (xQr x Q) 0 [(0, .ref (x.2.2.1 + 0))] [] μ
  refine x_ran (fun n0 => ?_)
  have h := h n0 
  refine x_aload_n 0 rfl dX10_lackingPlan_0 ?_
  refine x_getR (j := 7) (r := 221) ly0 (by decide) rfl rfl (by decide) inT10 fl_X10_54 dX10_lackingPlan_1 ?_
  refine x_getI (j := 0) ly221 (by decide) rfl rfl (by decide) inT9 fl_X10_270 dX10_lackingPlan_4 (fun r1 => ?_)
  refine x_ifne (tgt := 35) r1  dX10_lackingPlan_7 (by decide) (fun k2 => ?_) (fun k2 => ?_)
  · have h := h.1 k2
    refine x_aload_n 0 rfl dX10_lackingPlan_35 ?_
    refine x_getR (j := 7) (r := 221) ly0 (by decide) rfl rfl (by decide) inT10 fl_X10_54 dX10_lackingPlan_36 ?_
    exact x_aret h rfl (Or.inl ⟨_, rfl⟩) dX10_lackingPlan_39
  · have h := h.2 k2
    refine x_aload_n 0 rfl dX10_lackingPlan_10 ?_
    refine x_getR (j := 7) (r := 221) ly0 (by decide) rfl rfl (by decide) inT10 fl_X10_54 dX10_lackingPlan_11 ?_
    refine x_iconst dX10_lackingPlan_14 ?_
    refine x_callVv (As := [iV (-1)]) (rest := []) cal_X9_gather ins_X9_gather sel_X9_gather ly221 (by decide) rfl (xX9_gather x 221 (-1) _ _ isSurvey_221 ⟨by decide, by decide⟩ h) rfl ml_X10_224 (xRoom (Nat.le_of_ble_eq_true rfl)) (Nat.le_of_ble_eq_true rfl) dX10_lackingPlan_15 (fun μ3 n4 h => ?_)
    have h := h n4
    refine x_aload_n 0 rfl dX10_lackingPlan_18 ?_
    refine x_aload_n 0 rfl dX10_lackingPlan_19 ?_
    refine x_getR (j := 7) (r := 221) ly0 (by decide) rfl rfl (by decide) inT10 fl_X10_54 dX10_lackingPlan_20 ?_
    refine x_bipush dX10_lackingPlan_23 (by decide) ?_
    refine x_callVv (As := [.ref (x.2.2.1 + 221), iV 6]) (rest := []) cal_X10_offerGood ins_X10_offerGood sel_X10_offerGood ly0 (by decide) rfl (xX10_offerGood x 221 6 _ _ isSurvey_221 ⟨by decide, by decide⟩ h) rfl ml_X10_227 (xRoom (Nat.le_of_ble_eq_true rfl)) (Nat.le_of_ble_eq_true rfl) dX10_lackingPlan_25 (fun μ5 n6 h => ?_)
    have h := h n6
    refine x_aload_n 0 rfl dX10_lackingPlan_28 ?_
    refine x_getR (j := 7) (r := 221) ly0 (by decide) rfl rfl (by decide) inT10 fl_X10_54 dX10_lackingPlan_29 ?_
    refine x_callVv (As := []) (rest := []) cal_X9_findLack ins_X9_findLack sel_X9_findLack ly221 (by decide) rfl (xX9_findLack x 221 _ _ isSurvey_221 h) rfl ml_X10_376 (xRoom (Nat.le_of_ble_eq_true rfl)) (Nat.le_of_ble_eq_true rfl) dX10_lackingPlan_32 (fun μ7 n8 h => ?_)
    have h := h n8
    refine x_aload_n 0 rfl dX10_lackingPlan_35 ?_
    refine x_getR (j := 7) (r := 221) ly0 (by decide) rfl rfl (by decide) inT10 fl_X10_54 dX10_lackingPlan_36 ?_
    exact x_aret h rfl (Or.inl ⟨_, rfl⟩) dX10_lackingPlan_39
set_option maxRecDepth 100000 in
set_option maxHeartbeats 4000000 in
theorem xX10_wanted (x : xX)  (μ : xM) (Q : Int → xM → Prop)  (h : tX10_wanted  μ Q) : xMet x 21 yX10_wanted cX10_wanted 2 (some .int) [.ref (x.2.2.1 + 0)] μ (xQi x Q) := by
  refine xMet_of (by decide +kernel) (Nat.le_of_ble_eq_true rfl) ?_
  show xW x (xRm 21, RX10, cX10_wanted, 2, (some .int), fun _ _ => True) (xQi x Q) 0 [(0, .ref (x.2.2.1 + 0))] [] μ
  refine x_ran (fun n0 => ?_)
  have h := h n0 
  refine x_aload_n 0 rfl dX10_wanted_0 ?_
  refine x_getR (j := 2) (r := 39) ly0 (by decide) rfl rfl (by decide) inT10 fl_X10_25 dX10_wanted_1 ?_
  refine x_callVz (As := []) (rest := []) cal_X2_isOpen ins_X2_isOpen sel_X2_isOpen ly39 (by decide) rfl (xX2_isOpen x 39 _ _ isHouse_39 h) rfl ml_X10_186 (xRoom (Nat.le_of_ble_eq_true rfl)) (Nat.le_of_ble_eq_true rfl) dX10_wanted_4 (fun r3 μ1 i4 n2 h => ?_)
  have h := h i4 n2
  refine x_ifne (tgt := 16) (xIz i4)  dX10_wanted_7 (by decide) (fun k5 => ?_) (fun k5 => ?_)
  · have h := h.1 (xz1 i4 k5)
    refine x_aload_n 0 rfl dX10_wanted_16 ?_
    refine x_callVr (As := []) (rest := []) cal_X10_lackingPlan ins_X10_lackingPlan sel_X10_lackingPlan ly0 (by decide) rfl (xX10_lackingPlan x  _ _  h) rfl ml_X10_215 (xRoom (Nat.le_of_ble_eq_true rfl)) (Nat.le_of_ble_eq_true rfl) dX10_wanted_17 (fun r8 μ6 n7 h => ?_)
    obtain ⟨g9, hwg9⟩ := h n7
    subst g9
    have h := hwg9
    refine x_getI (j := 5) ly221 (by decide) rfl rfl (by decide) inT9 fl_X10_218 dX10_wanted_20 (fun r10 => ?_)
    refine x_istore_n [(1, iV (μ6 221 5)), (0, .ref (x.2.2.1 + 0))] dX10_wanted_23 (show 1 < 2 by decide) rfl ?_
    refine x_aload_n 1 rfl dX10_wanted_24 ?_
    refine x_iload_n 0 rfl dX10_wanted_25 ?_
    refine x_ifge (tgt := 34) r10  dX10_wanted_26 (by decide) (fun k11 => ?_) (fun k11 => ?_)
    · have h := h.1 k11
      refine x_iload_n 0 rfl dX10_wanted_34 ?_
      refine x_callVi (As := [iV (μ6 221 5)]) (rest := []) cal_X10_granted ins_X10_granted sel_X10_granted ly0 (by decide) rfl (xX10_granted x (μ6 221 5) _ _ r10 h) rfl ml_X10_140 (xRoom (Nat.le_of_ble_eq_true rfl)) (Nat.le_of_ble_eq_true rfl) dX10_wanted_35 (fun r14 μ12 i15 n13 h => ?_)
      have h := h i15 n13
      exact x_iret h i15 rfl dX10_wanted_38
    · have h := h.2 k11
      refine x_bipush dX10_wanted_29 (by decide) ?_
      refine x_goto (tgt := 35) dX10_wanted_31 (by decide) ?_
      refine x_callVi (As := [iV (-2)]) (rest := []) cal_X10_granted ins_X10_granted sel_X10_granted ly0 (by decide) rfl (xX10_granted x (-2) _ _ ⟨by decide, by decide⟩ h) rfl ml_X10_140 (xRoom (Nat.le_of_ble_eq_true rfl)) (Nat.le_of_ble_eq_true rfl) dX10_wanted_35 (fun r18 μ16 i19 n17 h => ?_)
      have h := h i19 n17
      exact x_iret h i19 rfl dX10_wanted_38
  · have h := h.2 k5
    refine x_aload_n 0 rfl dX10_wanted_10 ?_
    refine x_iconst dX10_wanted_11 ?_
    refine x_callVi (As := [iV 1]) (rest := []) cal_X10_refused ins_X10_refused sel_X10_refused ly0 (by decide) rfl (xX10_refused x 1 _ _ ⟨by decide, by decide⟩ h) rfl ml_X10_116 (xRoom (Nat.le_of_ble_eq_true rfl)) (Nat.le_of_ble_eq_true rfl) dX10_wanted_12 (fun r22 μ20 i23 n21 h => ?_)
    have h := h i23 n21
    exact x_iret h i23 rfl dX10_wanted_15
set_option maxRecDepth 100000 in
set_option maxHeartbeats 4000000 in
theorem xX10_wants (x : xX) (p1 : Int) (μ : xM) (Q : Int → xM → Prop) (hp1 : xIn p1) (h : tX10_wants p1 μ Q) : xMet x 21 yX10_wants cX10_wants 3 (some .int) [.ref (x.2.2.1 + 0), iV p1] μ (xQi x Q) := by
  refine xMet_of (by decide +kernel) (Nat.le_of_ble_eq_true rfl) ?_
  show xW x (xRm 21, RX10, cX10_wants, 3, (some .int), fun _ _ => True) (xQi x Q) 0 [(0, .ref (x.2.2.1 + 0)), (1, iV p1)] [] μ
  refine x_ran (fun n0 => ?_)
  have h := h n0 hp1
  refine x_aload_n 0 rfl dX10_wants_0 ?_
  refine x_getR (j := 2) (r := 39) ly0 (by decide) rfl rfl (by decide) inT10 fl_X10_25 dX10_wants_1 ?_
  refine x_callVz (As := []) (rest := []) cal_X2_isOpen ins_X2_isOpen sel_X2_isOpen ly39 (by decide) rfl (xX2_isOpen x 39 _ _ isHouse_39 h) rfl ml_X10_186 (xRoom (Nat.le_of_ble_eq_true rfl)) (Nat.le_of_ble_eq_true rfl) dX10_wants_4 (fun r3 μ1 i4 n2 h => ?_)
  have h := h i4 n2
  refine x_ifeq (tgt := 14) (xIz i4)  dX10_wants_7 (by decide) (fun k5 => ?_) (fun k5 => ?_)
  · have h := h.1 k5
    refine x_aload_n 0 rfl dX10_wants_14 ?_
    refine x_iconst dX10_wants_15 ?_
    refine x_callVi (As := [iV 1]) (rest := []) cal_X10_refused ins_X10_refused sel_X10_refused ly0 (by decide) rfl (xX10_refused x 1 _ _ ⟨by decide, by decide⟩ h) rfl ml_X10_116 (xRoom (Nat.le_of_ble_eq_true rfl)) (Nat.le_of_ble_eq_true rfl) dX10_wants_16 (fun r8 μ6 i9 n7 h => ?_)
    have h := h i9 n7
    exact x_iret h i9 rfl dX10_wants_19
  · have h := h.2 (xz1 i4 k5)
    refine x_iload_n 1 rfl dX10_wants_10 ?_
    refine x_ifge (tgt := 20) hp1  dX10_wants_11 (by decide) (fun k10 => ?_) (fun k10 => ?_)
    · have h := h.1 k10
      refine x_aload_n 0 rfl dX10_wants_20 ?_
      refine x_callVr (As := []) (rest := []) cal_X10_lackingPlan ins_X10_lackingPlan sel_X10_lackingPlan ly0 (by decide) rfl (xX10_lackingPlan x  _ _  h) rfl ml_X10_215 (xRoom (Nat.le_of_ble_eq_true rfl)) (Nat.le_of_ble_eq_true rfl) dX10_wants_21 (fun r13 μ11 n12 h => ?_)
      obtain ⟨g14, hwg14⟩ := h n12
      subst g14
      have h := hwg14
      refine x_getI (j := 5) ly221 (by decide) rfl rfl (by decide) inT9 fl_X10_218 dX10_wants_24 (fun r15 => ?_)
      refine x_istore_n [(2, iV (μ11 221 5)), (0, .ref (x.2.2.1 + 0)), (1, iV p1)] dX10_wants_27 (show 2 < 3 by decide) rfl ?_
      refine x_iload_n 0 rfl dX10_wants_28 ?_
      refine x_ifge (tgt := 39) r15  dX10_wants_29 (by decide) (fun k16 => ?_) (fun k16 => ?_)
      · have h := h.1 k16
        refine x_iload_n 2 rfl dX10_wants_39 ?_
        refine x_iload_n 0 rfl dX10_wants_40 ?_
        refine x_icmplt (tgt := 50) hp1 r15 dX10_wants_41 (by decide) (fun k17 => ?_) (fun k17 => ?_)
        · have h := h.1 k17
          refine x_aload_n 1 rfl dX10_wants_50 ?_
          refine x_aload_n 1 rfl dX10_wants_51 ?_
          refine x_getR (j := 7) (r := 221) ly0 (by decide) rfl rfl (by decide) inT10 fl_X10_54 dX10_wants_52 ?_
          refine x_iload_n 2 rfl dX10_wants_55 ?_
          refine x_callVi (As := [iV p1]) (rest := [.ref (x.2.2.1 + 0)]) cal_X9_lackingAt ins_X9_lackingAt sel_X9_lackingAt ly221 (by decide) rfl (xX9_lackingAt x 221 p1 _ _ isSurvey_221 hp1 h) rfl ml_X10_221 (xRoom (Nat.le_of_ble_eq_true rfl)) (Nat.le_of_ble_eq_true rfl) dX10_wants_56 (fun r20 μ18 i21 n19 h => ?_)
          have h := h i21 n19
          refine x_callVi (As := [iV r20]) (rest := []) cal_X10_granted ins_X10_granted sel_X10_granted ly0 (by decide) rfl (xX10_granted x r20 _ _ i21 h) rfl ml_X10_140 (xRoom (Nat.le_of_ble_eq_true rfl)) (Nat.le_of_ble_eq_true rfl) dX10_wants_59 (fun r24 μ22 i25 n23 h => ?_)
          have h := h i25 n23
          exact x_iret h i25 rfl dX10_wants_62
        · have h := h.2 k17
          refine x_aload_n 1 rfl dX10_wants_44 ?_
          refine x_iconst dX10_wants_45 ?_
          refine x_callVi (As := [iV 1]) (rest := []) cal_X10_refused ins_X10_refused sel_X10_refused ly0 (by decide) rfl (xX10_refused x 1 _ _ ⟨by decide, by decide⟩ h) rfl ml_X10_116 (xRoom (Nat.le_of_ble_eq_true rfl)) (Nat.le_of_ble_eq_true rfl) dX10_wants_46 (fun r28 μ26 i29 n27 h => ?_)
          have h := h i29 n27
          exact x_iret h i29 rfl dX10_wants_49
      · have h := h.2 k16
        refine x_aload_n 1 rfl dX10_wants_32 ?_
        refine x_bipush dX10_wants_33 (by decide) ?_
        refine x_callVi (As := [iV 6]) (rest := []) cal_X10_refused ins_X10_refused sel_X10_refused ly0 (by decide) rfl (xX10_refused x 6 _ _ ⟨by decide, by decide⟩ h) rfl ml_X10_116 (xRoom (Nat.le_of_ble_eq_true rfl)) (Nat.le_of_ble_eq_true rfl) dX10_wants_35 (fun r32 μ30 i33 n31 h => ?_)
        have h := h i33 n31
        exact x_iret h i33 rfl dX10_wants_38
    · have h := h.2 k10
      refine x_aload_n 0 rfl dX10_wants_14 ?_
      refine x_iconst dX10_wants_15 ?_
      refine x_callVi (As := [iV 1]) (rest := []) cal_X10_refused ins_X10_refused sel_X10_refused ly0 (by decide) rfl (xX10_refused x 1 _ _ ⟨by decide, by decide⟩ h) rfl ml_X10_116 (xRoom (Nat.le_of_ble_eq_true rfl)) (Nat.le_of_ble_eq_true rfl) dX10_wants_16 (fun r36 μ34 i37 n35 h => ?_)
      have h := h i37 n35
      exact x_iret h i37 rfl dX10_wants_19
