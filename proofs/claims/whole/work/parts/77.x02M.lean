set_option maxRecDepth 100000 in
set_option maxHeartbeats 4000000 in
theorem xX11_isGood (x : xX) (p1 : Int) (μ : xM) (Q : Int → xM → Prop) (hp1 : xIn p1) (h : tX11_isGood p1 μ Q) : xMet x 1 yX11_isGood cX11_isGood 2 (some .boolean) [.ref (x.2.2.1 + 260), iV p1] μ (xQz x Q) := by
  refine xMet_of (by decide +kernel) (Nat.le_of_ble_eq_true rfl) ?_
  show xW x (xRm 1, RX11, cX11_isGood, 2, (some .boolean), fun _ _ => True) (xQz x Q) 0 [(0, .ref (x.2.2.1 + 260)), (1, iV p1)] [] μ
  refine x_ran (fun n0 => ?_)
  have h := h n0 hp1
  refine x_aload_n 0 rfl dX11_isGood_0 ?_
  refine x_getR (j := 15) (r := 263) ly260 (by decide) rfl rfl (by decide) inT11 fl_X11_20 dX11_isGood_1 ?_
  refine x_sipush dX11_isGood_4 (by decide) ?_
  refine x_iload_n 1 rfl dX11_isGood_7 ?_
  refine x_iadd dX11_isGood_8 ?_
  obtain ⟨c1, h⟩ := h
  refine x_iald ly263 c1.1 c1.2 (xIb (n := 322) c1 (by decide)) (by decide) dX11_isGood_9 (fun r2 => ?_)
  refine x_ifne (tgt := 35) r2  dX11_isGood_10 (by decide) (fun k3 => ?_) (fun k3 => ?_)
  · have h := h.1 k3
    refine x_iconst dX11_isGood_35 ?_
    exact x_zret h (Or.inl rfl) rfl dX11_isGood_36
  · have h := h.2 k3
    refine x_aload_n 0 rfl dX11_isGood_13 ?_
    refine x_getR (j := 15) (r := 263) ly260 (by decide) rfl rfl (by decide) inT11 fl_X11_20 dX11_isGood_14 ?_
    refine x_bipush dX11_isGood_17 (by decide) ?_
    refine x_iload_n 1 rfl dX11_isGood_19 ?_
    refine x_iadd dX11_isGood_20 ?_
    obtain ⟨c4, h⟩ := h
    refine x_iald ly263 c4.1 c4.2 (xIb (n := 322) c4 (by decide)) (by decide) dX11_isGood_21 (fun r5 => ?_)
    refine x_aload_n 0 rfl dX11_isGood_22 ?_
    refine x_getR (j := 15) (r := 263) ly260 (by decide) rfl rfl (by decide) inT11 fl_X11_20 dX11_isGood_23 ?_
    refine x_iconst dX11_isGood_26 ?_
    refine x_iald ly263 (by decide) (by decide) ⟨by decide, by decide⟩ (by decide) dX11_isGood_27 (fun r6 => ?_)
    refine x_icmpgt (tgt := 35) r5 r6 dX11_isGood_28 (by decide) (fun k7 => ?_) (fun k7 => ?_)
    · have h := h.1 k7
      refine x_iconst dX11_isGood_35 ?_
      exact x_zret h (Or.inl rfl) rfl dX11_isGood_36
    · have h := h.2 k7
      refine x_iconst dX11_isGood_31 ?_
      refine x_goto (tgt := 36) dX11_isGood_32 (by decide) ?_
      exact x_zret h (Or.inr rfl) rfl dX11_isGood_36
set_option maxRecDepth 100000 in
set_option maxHeartbeats 4000000 in
theorem xX11_letterAt (x : xX) (p1 : Int) (p2 : Int) (μ : xM) (Q : Int → xM → Prop) (hp1 : xIn p1) (hp2 : xIn p2) (h : tX11_letterAt p1 p2 μ Q) : xMet x 1 yX11_letterAt cX11_letterAt 3 (some .int) [.ref (x.2.2.1 + 260), iV p1, iV p2] μ (xQi x Q) := by
  refine xMet_of (by decide +kernel) (Nat.le_of_ble_eq_true rfl) ?_
  show xW x (xRm 1, RX11, cX11_letterAt, 3, (some .int), fun _ _ => True) (xQi x Q) 0 [(0, .ref (x.2.2.1 + 260)), (1, iV p1), (2, iV p2)] [] μ
  refine x_ran (fun n0 => ?_)
  have h := h n0 hp1 hp2
  refine x_aload_n 0 rfl dX11_letterAt_0 ?_
  refine x_getR (j := 15) (r := 263) ly260 (by decide) rfl rfl (by decide) inT11 fl_X11_20 dX11_letterAt_1 ?_
  refine x_bipush dX11_letterAt_4 (by decide) ?_
  refine x_bipush dX11_letterAt_6 (by decide) ?_
  refine x_iload_n 1 rfl dX11_letterAt_8 ?_
  refine x_imul dX11_letterAt_9 ?_
  refine x_iadd dX11_letterAt_10 ?_
  refine x_iload_n 2 rfl dX11_letterAt_11 ?_
  refine x_iadd dX11_letterAt_12 ?_
  obtain ⟨c1, h⟩ := h
  refine x_iald ly263 c1.1 c1.2 (xIb (n := 322) c1 (by decide)) (by decide) dX11_letterAt_13 (fun r2 => ?_)
  refine x_bipush dX11_letterAt_14 (by decide) ?_
  refine x_isub dX11_letterAt_16 ?_
  obtain ⟨c3, h⟩ := h
  exact x_iret h c3 rfl dX11_letterAt_17
set_option maxRecDepth 100000 in
set_option maxHeartbeats 4000000 in
theorem xX11_isWithout_b42 (x : xX) (p1 : Int) (p2 : Int) (p3 : Int) (b5 : Int) (s1 : Int) (s2 : Int) (μ : xM) (Q : Int → xM → Prop) (J6 : Int → Int → xM → Prop) (hp1 : xIn p1) (hp2 : xIn p2) (hp3 : xIn p3)  (hJ6 : ∀ (c4 c5 : Int) (ν : xM), J6 c4 c5 ν → xW x (xRm 2, RX11, cX11_isWithout, 6, (some .boolean), fun _ _ => True) (xQz x Q) 6 [(0, .ref (x.2.2.1 + 260)), (1, iV p1), (2, iV p2), (3, iV p3), (4, iV c4), (5, iV c5)] [] ν) (h : tX11_isWithout_b42 p1 p2 p3 b5 s1 s2 μ Q J6) : xW x (xRm 2, RX11, cX11_isWithout, 6, (some .boolean), fun _ _ => True) (xQz x Q) 42 [(0, .ref (x.2.2.1 + 260)), (1, iV p1), (2, iV p2), (3, iV p3), (5, iV b5)] [iV s2, iV s1, .ref (x.2.2.1 + 260)] μ := by
  refine x_ran (fun n0 => ?_)
  have h := h n0
  obtain ⟨c13, h⟩ := h
  obtain ⟨c14, h⟩ := h
  refine x_callVi (As := [iV s1, iV s2]) (rest := []) cal_X11_letterAt ins_X11_letterAt sel_X11_letterAt ly260 (by decide) rfl (xX11_letterAt x s1 s2 _ _ c13 c14 h) rfl ml_X11_243 (xRoom (Nat.le_of_ble_eq_true rfl)) (Nat.le_of_ble_eq_true rfl) dX11_isWithout_42 (fun r17 μ15 i18 n16 h => ?_)
  have h := h i18 n16
  refine x_aload_n 0 rfl dX11_isWithout_45 ?_
  refine x_iload_n 3 rfl dX11_isWithout_46 ?_
  refine x_iload 4 rfl dX11_isWithout_47 ?_
  obtain ⟨c19, h⟩ := h
  refine x_callVi (As := [iV p3, iV b5]) (rest := [iV r17]) cal_X11_letterAt ins_X11_letterAt sel_X11_letterAt ly260 (by decide) rfl (xX11_letterAt x p3 b5 _ _ hp3 c19 h) rfl ml_X11_243 (xRoom (Nat.le_of_ble_eq_true rfl)) (Nat.le_of_ble_eq_true rfl) dX11_isWithout_49 (fun r22 μ20 i23 n21 h => ?_)
  have h := h i23 n21
  refine x_icmpne (tgt := 59) i18 i23 dX11_isWithout_52 (by decide) (fun k24 => ?_) (fun k24 => ?_)
  · have h := h.1 k24
    refine x_iconst dX11_isWithout_59 ?_
    refine x_istore [(4, iV 0), (0, .ref (x.2.2.1 + 260)), (1, iV p1), (2, iV p2), (3, iV p3), (5, iV b5)] dX11_isWithout_60 (show 4 < 6 by decide) rfl ?_
    refine x_iinc 5 rfl [(5, iV (b5 + 1)), (4, iV 0), (0, .ref (x.2.2.1 + 260)), (1, iV p1), (2, iV p2), (3, iV p3)] dX11_isWithout_62 (show 5 < 6 by decide) rfl ?_
    refine x_goto (tgt := 6) dX11_isWithout_65 (by decide) ?_
    exact x_sub [2, 3, 4, 5, 1, 0] rfl (hJ6 _ _ _ h)
  · have h := h.2 k24
    refine x_iconst dX11_isWithout_55 ?_
    refine x_goto (tgt := 60) dX11_isWithout_56 (by decide) ?_
    refine x_istore [(4, iV 1), (0, .ref (x.2.2.1 + 260)), (1, iV p1), (2, iV p2), (3, iV p3), (5, iV b5)] dX11_isWithout_60 (show 4 < 6 by decide) rfl ?_
    refine x_iinc 5 rfl [(5, iV (b5 + 1)), (4, iV 1), (0, .ref (x.2.2.1 + 260)), (1, iV p1), (2, iV p2), (3, iV p3)] dX11_isWithout_62 (show 5 < 6 by decide) rfl ?_
    refine x_goto (tgt := 6) dX11_isWithout_65 (by decide) ?_
    exact x_sub [2, 3, 4, 5, 1, 0] rfl (hJ6 _ _ _ h)
set_option maxRecDepth 100000 in
set_option maxHeartbeats 4000000 in
theorem xX11_isWithout (x : xX) (p1 : Int) (p2 : Int) (p3 : Int) (μ : xM) (Q : Int → xM → Prop) (hp1 : xIn p1) (hp2 : xIn p2) (hp3 : xIn p3) (h : tX11_isWithout p1 p2 p3 μ Q) : xMet x 2 yX11_isWithout cX11_isWithout 6 (some .boolean) [.ref (x.2.2.1 + 260), iV p1, iV p2, iV p3] μ (xQz x Q) := by
  refine xMet_of (by decide +kernel) (Nat.le_of_ble_eq_true rfl) ?_
  show xW x (xRm 2, RX11, cX11_isWithout, 6, (some .boolean), fun _ _ => True) (xQz x Q) 0 [(0, .ref (x.2.2.1 + 260)), (1, iV p1), (2, iV p2), (3, iV p3)] [] μ
  refine x_ran (fun n0 => ?_)
  have h := h n0 hp1 hp2 hp3
  refine x_iconst dX11_isWithout_0 ?_
  refine x_istore [(4, iV 1), (0, .ref (x.2.2.1 + 260)), (1, iV p1), (2, iV p2), (3, iV p3)] dX11_isWithout_1 (show 4 < 6 by decide) rfl ?_
  refine x_iconst dX11_isWithout_3 ?_
  refine x_istore [(5, iV 0), (4, iV 1), (0, .ref (x.2.2.1 + 260)), (1, iV p1), (2, iV p2), (3, iV p3)] dX11_isWithout_4 (show 5 < 6 by decide) rfl ?_
  refine x_sub [2, 3, 4, 5, 1, 0] rfl ?_
  refine x_loop2 (fun l4_1 l5_2 => [(0, .ref (x.2.2.1 + 260)), (1, iV p1), (2, iV p2), (3, iV p3), (4, iV l4_1), (5, iV l5_2)]) h (fun J6 l4_1 l5_2 μ3 hJ6 h n4 => ?_)
  refine x_iload 5 rfl dX11_isWithout_6 ?_
  refine x_aload_n 0 rfl dX11_isWithout_8 ?_
  refine x_getR (j := 15) (r := 263) ly260 (by decide) rfl rfl (by decide) inT11 fl_X11_20 dX11_isWithout_9 ?_
  refine x_bipush dX11_isWithout_12 (by decide) ?_
  refine x_iload_n 3 rfl dX11_isWithout_14 ?_
  refine x_iadd dX11_isWithout_15 ?_
  obtain ⟨c5, h⟩ := h
  refine x_iald ly263 c5.1 c5.2 (xIb (n := 322) c5 (by decide)) (by decide) dX11_isWithout_16 (fun r6 => ?_)
  obtain ⟨c7, h⟩ := h
  refine x_icmpge (tgt := 68) c7 r6 dX11_isWithout_17 (by decide) (fun k8 => ?_) (fun k8 => ?_)
  · have h := h.1 k8
    refine x_iload 4 rfl dX11_isWithout_68 ?_
    obtain ⟨c9, h⟩ := h
    exact x_zret h c9 rfl dX11_isWithout_70
  · have h := h.2 k8
    refine x_iload 4 rfl dX11_isWithout_20 ?_
    obtain ⟨c10, h⟩ := h
    refine x_ifeq (tgt := 59) c10  dX11_isWithout_22 (by decide) (fun k11 => ?_) (fun k11 => ?_)
    · have h := h.1 k11
      refine x_iconst dX11_isWithout_59 ?_
      refine x_istore [(4, iV 0), (0, .ref (x.2.2.1 + 260)), (1, iV p1), (2, iV p2), (3, iV p3), (5, iV l5_2)] dX11_isWithout_60 (show 4 < 6 by decide) rfl ?_
      refine x_iinc 5 rfl [(5, iV (l5_2 + 1)), (4, iV 0), (0, .ref (x.2.2.1 + 260)), (1, iV p1), (2, iV p2), (3, iV p3)] dX11_isWithout_62 (show 5 < 6 by decide) rfl ?_
      refine x_goto (tgt := 6) dX11_isWithout_65 (by decide) ?_
      exact x_sub [2, 3, 4, 5, 1, 0] rfl (hJ6 _ _ _ h)
    · have h := h.2 k11
      refine x_aload_n 0 rfl dX11_isWithout_25 ?_
      refine x_iload_n 1 rfl dX11_isWithout_26 ?_
      refine x_iload 5 rfl dX11_isWithout_27 ?_
      refine x_iload_n 2 rfl dX11_isWithout_29 ?_
      refine x_icmpge (tgt := 38) c7 hp2 dX11_isWithout_30 (by decide) (fun k12 => ?_) (fun k12 => ?_)
      · have h := h.1 k12
        refine x_iload 5 rfl dX11_isWithout_38 ?_
        refine x_iconst dX11_isWithout_40 ?_
        refine x_iadd dX11_isWithout_41 ?_
        exact x_sub [0, 1, 2, 3, 5] rfl (xX11_isWithout_b42 x p1 p2 p3 l5_2 p1 (l5_2 + 1) μ3 Q J6 hp1 hp2 hp3 hJ6 h)
      · have h := h.2 k12
        refine x_iload 5 rfl dX11_isWithout_33 ?_
        refine x_goto (tgt := 42) dX11_isWithout_35 (by decide) ?_
        exact x_sub [0, 1, 2, 3, 5] rfl (xX11_isWithout_b42 x p1 p2 p3 l5_2 p1 l5_2 μ3 Q J6 hp1 hp2 hp3 hJ6 h)
set_option maxRecDepth 100000 in
set_option maxHeartbeats 4000000 in
theorem xX11_growth_b149 (x : xX) (p1 : Int) (p2 : Int) (b3 : Int) (b4 : Int) (s0 : Int) (μ : xM) (Q : Int → xM → Prop) (J106 : Int → xM → Prop) (hp1 : xIn p1) (hp2 : xIn p2)  (hJ106 : ∀ (c4 : Int) (ν : xM), J106 c4 ν → xW x (xRm 3, RX11, cX11_growth, 6, (some .int), fun _ _ => True) (xQi x Q) 106 [(0, .ref (x.2.2.1 + 260)), (1, iV p1), (2, iV p2), (3, iV b3), (4, iV c4)] [] ν) (h : tX11_growth_b149 p1 p2 b3 b4 s0 μ Q J106) : xW x (xRm 3, RX11, cX11_growth, 6, (some .int), fun _ _ => True) (xQi x Q) 149 [(0, .ref (x.2.2.1 + 260)), (1, iV p1), (2, iV p2), (3, iV b3), (4, iV b4)] [iV s0] μ := by
  refine x_ran (fun n0 => ?_)
  have h := h n0
  refine x_istore [(5, iV s0), (0, .ref (x.2.2.1 + 260)), (1, iV p1), (2, iV p2), (3, iV b3), (4, iV b4)] dX11_growth_149 (show 5 < 6 by decide) rfl ?_
  refine x_iload 0 rfl dX11_growth_151 ?_
  obtain ⟨c30, h⟩ := h
  refine x_ifeq (tgt := 175) c30  dX11_growth_153 (by decide) (fun k31 => ?_) (fun k31 => ?_)
  · have h := h.1 k31
    refine x_iinc 5 rfl [(4, iV (b4 + 1)), (5, iV s0), (0, .ref (x.2.2.1 + 260)), (1, iV p1), (2, iV p2), (3, iV b3)] dX11_growth_175 (show 4 < 6 by decide) rfl ?_
    refine x_goto (tgt := 106) dX11_growth_178 (by decide) ?_
    exact x_sub [2, 3, 4, 5, 0] rfl (hJ106 _ _ h)
  · have h := h.2 k31
    refine x_aload_n 1 rfl dX11_growth_156 ?_
    refine x_iload_n 3 rfl dX11_growth_157 ?_
    refine x_iload 5 rfl dX11_growth_158 ?_
    refine x_iload_n 2 rfl dX11_growth_160 ?_
    obtain ⟨c32, h⟩ := h
    refine x_callVz (As := [iV p2, iV b4, iV p1]) (rest := []) cal_X11_isWithout ins_X11_isWithout sel_X11_isWithout ly260 (by decide) rfl (xX11_isWithout x p2 b4 p1 _ _ hp2 c32 hp1 h) rfl ml_X11_246 (xRoom (Nat.le_of_ble_eq_true rfl)) (Nat.le_of_ble_eq_true rfl) dX11_growth_161 (fun r35 μ33 i36 n34 h => ?_)
    have h := h i36 n34
    refine x_ifeq (tgt := 175) (xIz i36)  dX11_growth_164 (by decide) (fun k37 => ?_) (fun k37 => ?_)
    · have h := h.1 k37
      refine x_iinc 5 rfl [(4, iV (b4 + 1)), (5, iV s0), (0, .ref (x.2.2.1 + 260)), (1, iV p1), (2, iV p2), (3, iV b3)] dX11_growth_175 (show 4 < 6 by decide) rfl ?_
      refine x_goto (tgt := 106) dX11_growth_178 (by decide) ?_
      exact x_sub [2, 3, 4, 5, 0] rfl (hJ106 _ _ h)
    · have h := h.2 (xz1 i36 k37)
      refine x_aload_n 1 rfl dX11_growth_167 ?_
      refine x_iload_n 3 rfl dX11_growth_168 ?_
      refine x_iload 5 rfl dX11_growth_169 ?_
      refine x_callVi (As := [iV p2, iV b4]) (rest := []) cal_X11_letterAt ins_X11_letterAt sel_X11_letterAt ly260 (by decide) rfl (xX11_letterAt x p2 b4 _ _ hp2 c32 h) rfl ml_X11_243 (xRoom (Nat.le_of_ble_eq_true rfl)) (Nat.le_of_ble_eq_true rfl) dX11_growth_171 (fun r40 μ38 i41 n39 h => ?_)
      have h := h i41 n39
      exact x_iret h i41 rfl dX11_growth_174
set_option maxRecDepth 100000 in
set_option maxHeartbeats 4000000 in
theorem xX11_growth_b144 (x : xX) (p1 : Int) (p2 : Int) (b3 : Int) (b4 : Int) (μ : xM) (Q : Int → xM → Prop) (J106 : Int → xM → Prop) (hp1 : xIn p1) (hp2 : xIn p2)  (hJ106 : ∀ (c4 : Int) (ν : xM), J106 c4 ν → xW x (xRm 3, RX11, cX11_growth, 6, (some .int), fun _ _ => True) (xQi x Q) 106 [(0, .ref (x.2.2.1 + 260)), (1, iV p1), (2, iV p2), (3, iV b3), (4, iV c4)] [] ν) (h : tX11_growth_b144 p1 p2 b3 b4 μ Q J106) : xW x (xRm 3, RX11, cX11_growth, 6, (some .int), fun _ _ => True) (xQi x Q) 144 [(0, .ref (x.2.2.1 + 260)), (1, iV p1), (2, iV p2), (3, iV b3), (4, iV b4)] [] μ := by
  refine x_ran (fun n0 => ?_)
  have h := h n0
  refine x_iconst dX11_growth_144 ?_
  refine x_goto (tgt := 149) dX11_growth_145 (by decide) ?_
  exact x_sub [0, 1, 2, 3, 4] rfl (xX11_growth_b149 x p1 p2 b3 b4 1 μ Q J106 hp1 hp2 hJ106 h)
set_option maxRecDepth 100000 in
set_option maxHeartbeats 4000000 in
theorem xX11_growth_b148 (x : xX) (p1 : Int) (p2 : Int) (b3 : Int) (b4 : Int) (μ : xM) (Q : Int → xM → Prop) (J106 : Int → xM → Prop) (hp1 : xIn p1) (hp2 : xIn p2)  (hJ106 : ∀ (c4 : Int) (ν : xM), J106 c4 ν → xW x (xRm 3, RX11, cX11_growth, 6, (some .int), fun _ _ => True) (xQi x Q) 106 [(0, .ref (x.2.2.1 + 260)), (1, iV p1), (2, iV p2), (3, iV b3), (4, iV c4)] [] ν) (h : tX11_growth_b148 p1 p2 b3 b4 μ Q J106) : xW x (xRm 3, RX11, cX11_growth, 6, (some .int), fun _ _ => True) (xQi x Q) 148 [(0, .ref (x.2.2.1 + 260)), (1, iV p1), (2, iV p2), (3, iV b3), (4, iV b4)] [] μ := by
  refine x_ran (fun n0 => ?_)
  have h := h n0
  refine x_iconst dX11_growth_148 ?_
  exact x_sub [0, 1, 2, 3, 4] rfl (xX11_growth_b149 x p1 p2 b3 b4 0 μ Q J106 hp1 hp2 hJ106 h)
set_option maxRecDepth 100000 in
set_option maxHeartbeats 4000000 in
theorem xX11_growth (x : xX) (p1 : Int) (p2 : Int) (μ : xM) (Q : Int → xM → Prop) (hp1 : xIn p1) (hp2 : xIn p2) (h : tX11_growth p1 p2 μ Q) : xMet x 3 yX11_growth cX11_growth 6 (some .int) [.ref (x.2.2.1 + 260), iV p1, iV p2] μ (xQi x Q) := by
  refine xMet_of (by decide +kernel) (Nat.le_of_ble_eq_true rfl) ?_
  show xW x (xRm 3, RX11, cX11_growth, 6, (some .int), fun _ _ => True) (xQi x Q) 0 [(0, .ref (x.2.2.1 + 260)), (1, iV p1), (2, iV p2)] [] μ
  refine x_ran (fun n0 => ?_)
  have h := h n0 hp1 hp2
  refine x_iload_n 2 rfl dX11_growth_0 ?_
  refine x_aload_n 0 rfl dX11_growth_1 ?_
  refine x_getR (j := 15) (r := 263) ly260 (by decide) rfl rfl (by decide) inT11 fl_X11_20 dX11_growth_2 ?_
  refine x_iconst dX11_growth_5 ?_
  refine x_iald ly263 (by decide) (by decide) ⟨by decide, by decide⟩ (by decide) dX11_growth_6 (fun r1 => ?_)
  refine x_icmpge (tgt := 18) hp2 r1 dX11_growth_7 (by decide) (fun k2 => ?_) (fun k2 => ?_)
  · have h := h.1 k2
    refine x_iconst dX11_growth_18 ?_
    exact x_iret h ⟨by decide, by decide⟩ rfl dX11_growth_19
  · have h := h.2 k2
    refine x_aload_n 0 rfl dX11_growth_10 ?_
    refine x_iload_n 2 rfl dX11_growth_11 ?_
    refine x_callVz (As := [iV p2]) (rest := []) cal_X11_isGood ins_X11_isGood sel_X11_isGood ly260 (by decide) rfl (xX11_isGood x p2 _ _ hp2 h) rfl ml_X11_240 (xRoom (Nat.le_of_ble_eq_true rfl)) (Nat.le_of_ble_eq_true rfl) dX11_growth_12 (fun r5 μ3 i6 n4 h => ?_)
    have h := h i6 n4
    refine x_ifne (tgt := 20) (xIz i6)  dX11_growth_15 (by decide) (fun k7 => ?_) (fun k7 => ?_)
    · have h := h.1 (xz1 i6 k7)
      refine x_iload_n 1 rfl dX11_growth_20 ?_
      refine x_bipush dX11_growth_21 (by decide) ?_
      refine x_icmpne (tgt := 50) hp1 ⟨by decide, by decide⟩ dX11_growth_23 (by decide) (fun k8 => ?_) (fun k8 => ?_)
      · have h := h.1 k8
        refine x_iload_n 1 rfl dX11_growth_50 ?_
        refine x_aload_n 0 rfl dX11_growth_51 ?_
        refine x_getR (j := 15) (r := 263) ly260 (by decide) rfl rfl (by decide) inT11 fl_X11_20 dX11_growth_52 ?_
        refine x_iconst dX11_growth_55 ?_
        refine x_iald ly263 (by decide) (by decide) ⟨by decide, by decide⟩ (by decide) dX11_growth_56 (fun r9 => ?_)
        refine x_icmpge (tgt := 91) hp1 r9 dX11_growth_57 (by decide) (fun k10 => ?_) (fun k10 => ?_)
        · have h := h.1 k10
          refine x_iconst dX11_growth_91 ?_
          exact x_iret h ⟨by decide, by decide⟩ rfl dX11_growth_92
        · have h := h.2 k10
          refine x_aload_n 0 rfl dX11_growth_60 ?_
          refine x_iload_n 1 rfl dX11_growth_61 ?_
          refine x_callVz (As := [iV p1]) (rest := []) cal_X11_isGood ins_X11_isGood sel_X11_isGood ly260 (by decide) rfl (xX11_isGood x p1 _ _ hp1 h) rfl ml_X11_240 (xRoom (Nat.le_of_ble_eq_true rfl)) (Nat.le_of_ble_eq_true rfl) dX11_growth_62 (fun r13 μ11 i14 n12 h => ?_)
          have h := h i14 n12
          refine x_ifeq (tgt := 91) (xIz i14)  dX11_growth_65 (by decide) (fun k15 => ?_) (fun k15 => ?_)
          · have h := h.1 k15
            refine x_iconst dX11_growth_91 ?_
            exact x_iret h ⟨by decide, by decide⟩ rfl dX11_growth_92
          · have h := h.2 (xz1 i14 k15)
            refine x_aload_n 0 rfl dX11_growth_68 ?_
            refine x_getR (j := 15) (r := 263) ly260 (by decide) rfl rfl (by decide) inT11 fl_X11_20 dX11_growth_69 ?_
            refine x_bipush dX11_growth_72 (by decide) ?_
            refine x_iload_n 2 rfl dX11_growth_74 ?_
            refine x_iadd dX11_growth_75 ?_
            obtain ⟨c16, h⟩ := h
            refine x_iald ly263 c16.1 c16.2 (xIb (n := 322) c16 (by decide)) (by decide) dX11_growth_76 (fun r17 => ?_)
            refine x_aload_n 0 rfl dX11_growth_77 ?_
            refine x_getR (j := 15) (r := 263) ly260 (by decide) rfl rfl (by decide) inT11 fl_X11_20 dX11_growth_78 ?_
            refine x_bipush dX11_growth_81 (by decide) ?_
            refine x_iload_n 1 rfl dX11_growth_83 ?_
            refine x_iadd dX11_growth_84 ?_
            obtain ⟨c18, h⟩ := h
            refine x_iald ly263 c18.1 c18.2 (xIb (n := 322) c18 (by decide)) (by decide) dX11_growth_85 (fun r19 => ?_)
            refine x_iconst dX11_growth_86 ?_
            refine x_iadd dX11_growth_87 ?_
            obtain ⟨c20, h⟩ := h
            refine x_icmpeq (tgt := 93) r17 c20 dX11_growth_88 (by decide) (fun k21 => ?_) (fun k21 => ?_)
            · have h := h.1 k21
              refine x_aload_n 0 rfl dX11_growth_93 ?_
              refine x_getR (j := 15) (r := 263) ly260 (by decide) rfl rfl (by decide) inT11 fl_X11_20 dX11_growth_94 ?_
              refine x_bipush dX11_growth_97 (by decide) ?_
              refine x_iload_n 2 rfl dX11_growth_99 ?_
              refine x_iadd dX11_growth_100 ?_
              refine x_iald ly263 c16.1 c16.2 (xIb (n := 322) c16 (by decide)) (by decide) dX11_growth_101 (fun r22 => ?_)
              refine x_istore_n [(3, iV (μ11 263 ((7 + p2).toNat))), (0, .ref (x.2.2.1 + 260)), (1, iV p1), (2, iV p2)] dX11_growth_102 (show 3 < 6 by decide) rfl ?_
              refine x_iconst dX11_growth_103 ?_
              refine x_istore [(4, iV 0), (3, iV (μ11 263 ((7 + p2).toNat))), (0, .ref (x.2.2.1 + 260)), (1, iV p1), (2, iV p2)] dX11_growth_104 (show 4 < 6 by decide) rfl ?_
              refine x_sub [2, 3, 4, 1, 0] rfl ?_
              refine x_loop1 (fun l4_23 => [(0, .ref (x.2.2.1 + 260)), (1, iV p1), (2, iV p2), (3, iV (μ11 263 ((7 + p2).toNat))), (4, iV l4_23)]) h (fun J106 l4_23 μ24 hJ106 h n25 => ?_)
              refine x_iload 4 rfl dX11_growth_106 ?_
              refine x_iload_n 3 rfl dX11_growth_108 ?_
              obtain ⟨c26, h⟩ := h
              refine x_icmpge (tgt := 181) c26 r22 dX11_growth_109 (by decide) (fun k27 => ?_) (fun k27 => ?_)
              · have h := h.1 k27
                refine x_iconst dX11_growth_181 ?_
                exact x_iret h ⟨by decide, by decide⟩ rfl dX11_growth_182
              · have h := h.2 k27
                refine x_aload_n 0 rfl dX11_growth_112 ?_
                refine x_getR (j := 15) (r := 263) ly260 (by decide) rfl rfl (by decide) inT11 fl_X11_20 dX11_growth_113 ?_
                refine x_iconst dX11_growth_116 ?_
                refine x_iald ly263 (by decide) (by decide) ⟨by decide, by decide⟩ (by decide) dX11_growth_117 (fun r28 => ?_)
                refine x_ifeq (tgt := 144) r28  dX11_growth_118 (by decide) (fun k29 => ?_) (fun k29 => ?_)
                · have h := h.1 k29
                  exact x_sub [0, 1, 2, 3, 4] rfl (xX11_growth_b144 x p1 p2 (μ11 263 ((7 + p2).toNat)) l4_23 μ24 Q J106 hp1 hp2 hJ106 h)
                · have h := h.2 k29
                  refine x_iload 4 rfl dX11_growth_121 ?_
                  refine x_iload_n 3 rfl dX11_growth_123 ?_
                  refine x_iconst dX11_growth_124 ?_
                  refine x_isub dX11_growth_125 ?_
                  obtain ⟨c42, h⟩ := h
                  refine x_icmpeq (tgt := 144) c26 c42 dX11_growth_126 (by decide) (fun k43 => ?_) (fun k43 => ?_)
                  · have h := h.1 k43
                    exact x_sub [0, 1, 2, 3, 4] rfl (xX11_growth_b144 x p1 p2 (μ11 263 ((7 + p2).toNat)) l4_23 μ24 Q J106 hp1 hp2 hJ106 h)
                  · have h := h.2 k43
                    refine x_aload_n 0 rfl dX11_growth_129 ?_
                    refine x_getR (j := 15) (r := 263) ly260 (by decide) rfl rfl (by decide) inT11 fl_X11_20 dX11_growth_130 ?_
                    refine x_iconst dX11_growth_133 ?_
                    refine x_iald ly263 (by decide) (by decide) ⟨by decide, by decide⟩ (by decide) dX11_growth_134 (fun r44 => ?_)
                    refine x_iconst dX11_growth_135 ?_
                    refine x_icmpne (tgt := 148) r44 ⟨by decide, by decide⟩ dX11_growth_136 (by decide) (fun k45 => ?_) (fun k45 => ?_)
                    · have h := h.1 k45
                      exact x_sub [0, 1, 2, 3, 4] rfl (xX11_growth_b148 x p1 p2 (μ11 263 ((7 + p2).toNat)) l4_23 μ24 Q J106 hp1 hp2 hJ106 h)
                    · have h := h.2 k45
                      refine x_iload 4 rfl dX11_growth_139 ?_
                      refine x_ifne (tgt := 148) c26  dX11_growth_141 (by decide) (fun k46 => ?_) (fun k46 => ?_)
                      · have h := h.1 k46
                        exact x_sub [0, 1, 2, 3, 4] rfl (xX11_growth_b148 x p1 p2 (μ11 263 ((7 + p2).toNat)) l4_23 μ24 Q J106 hp1 hp2 hJ106 h)
                      · have h := h.2 k46
                        exact x_sub [0, 1, 2, 3, 4] rfl (xX11_growth_b144 x p1 p2 (μ11 263 ((7 + p2).toNat)) l4_23 μ24 Q J106 hp1 hp2 hJ106 h)
            · have h := h.2 k21
              refine x_iconst dX11_growth_91 ?_
              exact x_iret h ⟨by decide, by decide⟩ rfl dX11_growth_92
      · have h := h.2 k8
        refine x_aload_n 0 rfl dX11_growth_26 ?_
        refine x_getR (j := 15) (r := 263) ly260 (by decide) rfl rfl (by decide) inT11 fl_X11_20 dX11_growth_27 ?_
        refine x_bipush dX11_growth_30 (by decide) ?_
        refine x_iload_n 2 rfl dX11_growth_32 ?_
        refine x_iadd dX11_growth_33 ?_
        obtain ⟨c47, h⟩ := h
        refine x_iald ly263 c47.1 c47.2 (xIb (n := 322) c47 (by decide)) (by decide) dX11_growth_34 (fun r48 => ?_)
        refine x_iconst dX11_growth_35 ?_
        refine x_icmpne (tgt := 48) r48 ⟨by decide, by decide⟩ dX11_growth_36 (by decide) (fun k49 => ?_) (fun k49 => ?_)
        · have h := h.1 k49
          refine x_iconst dX11_growth_48 ?_
          exact x_iret h ⟨by decide, by decide⟩ rfl dX11_growth_49
        · have h := h.2 k49
          refine x_aload_n 0 rfl dX11_growth_39 ?_
          refine x_iload_n 2 rfl dX11_growth_40 ?_
          refine x_iconst dX11_growth_41 ?_
          refine x_callVi (As := [iV p2, iV 0]) (rest := []) cal_X11_letterAt ins_X11_letterAt sel_X11_letterAt ly260 (by decide) rfl (xX11_letterAt x p2 0 _ _ hp2 ⟨by decide, by decide⟩ h) rfl ml_X11_243 (xRoom (Nat.le_of_ble_eq_true rfl)) (Nat.le_of_ble_eq_true rfl) dX11_growth_42 (fun r52 μ50 i53 n51 h => ?_)
          have h := h i53 n51
          refine x_goto (tgt := 49) dX11_growth_45 (by decide) ?_
          exact x_iret h i53 rfl dX11_growth_49
    · have h := h.2 k7
      refine x_iconst dX11_growth_18 ?_
      exact x_iret h ⟨by decide, by decide⟩ rfl dX11_growth_19
set_option maxRecDepth 100000 in
set_option maxHeartbeats 4000000 in
theorem xX11_layGrows_b102 (x : xX)  (b1 : Int) (b2 : Int) (μ : xM) (Q : xM → Prop) (J48 : Int → xM → Prop) (J54 : Int → xM → Prop)   (hJ48 : ∀ (c1 : Int) (ν : xM), J48 c1 ν → xW x (xRm 4, RX11, cX11_layGrows, 6, none, fun _ _ => True) (xQv x Q) 48 [(0, .ref (x.2.2.1 + 260)), (1, iV c1)] [] ν) (hJ54 : ∀ (c2 : Int) (ν : xM), J54 c2 ν → xW x (xRm 4, RX11, cX11_layGrows, 6, none, fun _ _ => True) (xQv x Q) 54 [(0, .ref (x.2.2.1 + 260)), (1, iV b1), (2, iV c2)] [] ν) (h : tX11_layGrows_b102  b1 b2 μ Q J48 J54) : xW x (xRm 4, RX11, cX11_layGrows, 6, none, fun _ _ => True) (xQv x Q) 102 [(0, .ref (x.2.2.1 + 260)), (1, iV b1), (2, iV b2)] [] μ := by
  refine x_ran (fun n0 => ?_)
  have h := h n0
  refine x_iconst dX11_layGrows_102 ?_
  refine x_istore_n [(3, iV 0), (0, .ref (x.2.2.1 + 260)), (1, iV b1), (2, iV b2)] dX11_layGrows_103 (show 3 < 6 by decide) rfl ?_
  refine x_iconst dX11_layGrows_104 ?_
  refine x_istore [(4, iV 0), (3, iV 0), (0, .ref (x.2.2.1 + 260)), (1, iV b1), (2, iV b2)] dX11_layGrows_105 (show 4 < 6 by decide) rfl ?_
  refine x_iconst dX11_layGrows_107 ?_
  refine x_istore [(5, iV 0), (4, iV 0), (3, iV 0), (0, .ref (x.2.2.1 + 260)), (1, iV b1), (2, iV b2)] dX11_layGrows_108 (show 5 < 6 by decide) rfl ?_
  refine x_sub [3, 4, 5, 2, 1, 0] rfl ?_
  refine x_loop3 (fun l3_56 l4_57 l5_58 => [(0, .ref (x.2.2.1 + 260)), (1, iV b1), (2, iV b2), (3, iV l3_56), (4, iV l4_57), (5, iV l5_58)]) h (fun J110 l3_56 l4_57 l5_58 μ59 hJ110 h n60 => ?_)
  refine x_iload 5 rfl dX11_layGrows_110 ?_
  refine x_aload_n 0 rfl dX11_layGrows_112 ?_
  refine x_getR (j := 15) (r := 263) ly260 (by decide) rfl rfl (by decide) inT11 fl_X11_20 dX11_layGrows_113 ?_
  refine x_iconst dX11_layGrows_116 ?_
  refine x_iald ly263 (by decide) (by decide) ⟨by decide, by decide⟩ (by decide) dX11_layGrows_117 (fun r61 => ?_)
  obtain ⟨c62, h⟩ := h
  refine x_icmpge (tgt := 186) c62 r61 dX11_layGrows_118 (by decide) (fun k63 => ?_) (fun k63 => ?_)
  · have h := h.1 k63
    refine x_iconst dX11_layGrows_186 ?_
    refine x_istore [(5, iV 0), (0, .ref (x.2.2.1 + 260)), (1, iV b1), (2, iV b2), (3, iV l3_56), (4, iV l4_57)] dX11_layGrows_187 (show 5 < 6 by decide) rfl ?_
    refine x_sub [1, 2, 3, 4, 5, 0] rfl ?_
    refine x_loop1 (fun l5_64 => [(0, .ref (x.2.2.1 + 260)), (1, iV b1), (2, iV b2), (3, iV l3_56), (4, iV l4_57), (5, iV l5_64)]) h (fun J189 l5_64 μ65 hJ189 h n66 => ?_)
    refine x_iload 4 rfl dX11_layGrows_189 ?_
    refine x_iload 5 rfl dX11_layGrows_191 ?_
    refine x_ishr dX11_layGrows_193 ?_
    refine x_iconst dX11_layGrows_194 ?_
    refine x_iand dX11_layGrows_195 ?_
    refine x_iconst dX11_layGrows_196 ?_
    refine x_icmpne (tgt := 206) (xAnd_in _ _) ⟨by decide, by decide⟩ dX11_layGrows_197 (by decide) (fun k67 => ?_) (fun k67 => ?_)
    · have h := h.1 k67
      refine x_aload_n 0 rfl dX11_layGrows_206 ?_
      refine x_getR (j := 22) (r := 269) ly260 (by decide) rfl rfl (by decide) inT11 fl_X11_38 dX11_layGrows_207 ?_
      refine x_iload_n 2 rfl dX11_layGrows_210 ?_
      refine x_iload 5 rfl dX11_layGrows_211 ?_
      obtain ⟨c68, h⟩ := h
      obtain ⟨c69, h⟩ := h
      refine x_iast ly269 c68.1 c68.2 (xIb (n := 25) c68 (by decide)) c69 (by decide) dX11_layGrows_213 (fun μ70 e72 n71 => ?_)
      have h := h μ70 e72 n71
      refine x_iload_n 2 rfl dX11_layGrows_214 ?_
      refine x_bipush dX11_layGrows_215 (by decide) ?_
      obtain ⟨c73, h⟩ := h
      refine x_icmpeq (tgt := 227) c73 ⟨by decide, by decide⟩ dX11_layGrows_217 (by decide) (fun k74 => ?_) (fun k74 => ?_)
      · have h := h.1 k74
        refine x_iinc 2 rfl [(2, iV (b2 + 1)), (0, .ref (x.2.2.1 + 260)), (1, iV b1), (3, iV l3_56), (4, iV l4_57), (5, iV l5_64)] dX11_layGrows_227 (show 2 < 6 by decide) rfl ?_
        refine x_goto (tgt := 54) dX11_layGrows_230 (by decide) ?_
        exact x_sub [1, 2, 0] rfl (hJ54 _ _ h)
      · have h := h.2 k74
        refine x_aload_n 0 rfl dX11_layGrows_220 ?_
        refine x_getR (j := 21) (r := 268) ly260 (by decide) rfl rfl (by decide) inT11 fl_X11_35 dX11_layGrows_221 ?_
        refine x_iload_n 2 rfl dX11_layGrows_224 ?_
        refine x_iload_n 3 rfl dX11_layGrows_225 ?_
        obtain ⟨c75, h⟩ := h
        obtain ⟨c76, h⟩ := h
        refine x_iast ly268 c75.1 c75.2 (xIb (n := 24) c75 (by decide)) c76 (by decide) dX11_layGrows_226 (fun μ77 e79 n78 => ?_)
        have h := h μ77 e79 n78
        refine x_iinc 2 rfl [(2, iV (b2 + 1)), (0, .ref (x.2.2.1 + 260)), (1, iV b1), (3, iV l3_56), (4, iV l4_57), (5, iV l5_64)] dX11_layGrows_227 (show 2 < 6 by decide) rfl ?_
        refine x_goto (tgt := 54) dX11_layGrows_230 (by decide) ?_
        exact x_sub [1, 2, 0] rfl (hJ54 _ _ h)
    · have h := h.2 k67
      refine x_iinc 5 rfl [(5, iV (l5_64 + 1)), (0, .ref (x.2.2.1 + 260)), (1, iV b1), (2, iV b2), (3, iV l3_56), (4, iV l4_57)] dX11_layGrows_200 (show 5 < 6 by decide) rfl ?_
      refine x_goto (tgt := 189) dX11_layGrows_203 (by decide) ?_
      exact x_sub [1, 2, 3, 4, 5, 0] rfl (hJ189 _ _ h)
  · have h := h.2 k63
    refine x_aload_n 0 rfl dX11_layGrows_121 ?_
    refine x_getR (j := 20) (r := 267) ly260 (by decide) rfl rfl (by decide) inT11 fl_X11_32 dX11_layGrows_122 ?_
    refine x_bipush dX11_layGrows_125 (by decide) ?_
    refine x_iload_n 2 rfl dX11_layGrows_127 ?_
    refine x_imul dX11_layGrows_128 ?_
    refine x_iload 5 rfl dX11_layGrows_129 ?_
    refine x_iadd dX11_layGrows_131 ?_
    obtain ⟨c80, h⟩ := h
    refine x_iald ly267 c80.1 c80.2 (xIb (n := 600) c80 (by decide)) (by decide) dX11_layGrows_132 (fun r81 => ?_)
    refine x_ifge (tgt := 139) r81  dX11_layGrows_133 (by decide) (fun k82 => ?_) (fun k82 => ?_)
    · have h := h.1 k82
      refine x_aload_n 0 rfl dX11_layGrows_139 ?_
      refine x_getR (j := 21) (r := 268) ly260 (by decide) rfl rfl (by decide) inT11 fl_X11_35 dX11_layGrows_140 ?_
      refine x_iload 5 rfl dX11_layGrows_143 ?_
      obtain ⟨c83, h⟩ := h
      refine x_iald ly268 c83.1 c83.2 (xIb (n := 24) c83 (by decide)) (by decide) dX11_layGrows_145 (fun r84 => ?_)
      refine x_iconst dX11_layGrows_146 ?_
      refine x_iadd dX11_layGrows_147 ?_
      refine x_iload_n 3 rfl dX11_layGrows_148 ?_
      obtain ⟨c85, h⟩ := h
      obtain ⟨c86, h⟩ := h
      refine x_icmple (tgt := 164) c85 c86 dX11_layGrows_149 (by decide) (fun k87 => ?_) (fun k87 => ?_)
      · have h := h.1 k87
        refine x_iload_n 3 rfl dX11_layGrows_164 ?_
        refine x_istore_n [(3, iV l3_56), (0, .ref (x.2.2.1 + 260)), (1, iV b1), (2, iV b2), (4, iV l4_57), (5, iV l5_58)] dX11_layGrows_165 (show 3 < 6 by decide) rfl ?_
        refine x_iload 4 rfl dX11_layGrows_166 ?_
        refine x_iconst dX11_layGrows_168 ?_
        refine x_aload_n 1 rfl dX11_layGrows_169 ?_
        refine x_getR (j := 22) (r := 269) ly260 (by decide) rfl rfl (by decide) inT11 fl_X11_38 dX11_layGrows_170 ?_
        refine x_iload 5 rfl dX11_layGrows_173 ?_
        obtain ⟨c88, h⟩ := h
        refine x_iald ly269 c88.1 c88.2 (xIb (n := 25) c88 (by decide)) (by decide) dX11_layGrows_175 (fun r89 => ?_)
        refine x_ishl dX11_layGrows_176 ?_
        refine x_ior dX11_layGrows_177 ?_
        refine x_istore [(4, iV (xOr l4_57 (xShl 1 (μ59 269 l5_58.toNat)))), (3, iV l3_56), (0, .ref (x.2.2.1 + 260)), (1, iV b1), (2, iV b2), (5, iV l5_58)] dX11_layGrows_178 (show 4 < 6 by decide) rfl ?_
        refine x_iinc 5 rfl [(5, iV (l5_58 + 1)), (4, iV (xOr l4_57 (xShl 1 (μ59 269 l5_58.toNat)))), (3, iV l3_56), (0, .ref (x.2.2.1 + 260)), (1, iV b1), (2, iV b2)] dX11_layGrows_180 (show 5 < 6 by decide) rfl ?_
        refine x_goto (tgt := 110) dX11_layGrows_183 (by decide) ?_
        exact x_sub [3, 4, 5, 2, 1, 0] rfl (hJ110 _ _ _ _ h)
      · have h := h.2 k87
        refine x_aload_n 0 rfl dX11_layGrows_152 ?_
        refine x_getR (j := 21) (r := 268) ly260 (by decide) rfl rfl (by decide) inT11 fl_X11_35 dX11_layGrows_153 ?_
        refine x_iload 5 rfl dX11_layGrows_156 ?_
        refine x_iald ly268 c83.1 c83.2 (xIb (n := 24) c83 (by decide)) (by decide) dX11_layGrows_158 (fun r90 => ?_)
        refine x_iconst dX11_layGrows_159 ?_
        refine x_iadd dX11_layGrows_160 ?_
        refine x_goto (tgt := 165) dX11_layGrows_161 (by decide) ?_
        refine x_istore_n [(3, iV ((μ59 268 l5_58.toNat) + 1)), (0, .ref (x.2.2.1 + 260)), (1, iV b1), (2, iV b2), (4, iV l4_57), (5, iV l5_58)] dX11_layGrows_165 (show 3 < 6 by decide) rfl ?_
        refine x_iload 4 rfl dX11_layGrows_166 ?_
        refine x_iconst dX11_layGrows_168 ?_
        refine x_aload_n 1 rfl dX11_layGrows_169 ?_
        refine x_getR (j := 22) (r := 269) ly260 (by decide) rfl rfl (by decide) inT11 fl_X11_38 dX11_layGrows_170 ?_
        refine x_iload 5 rfl dX11_layGrows_173 ?_
        obtain ⟨c91, h⟩ := h
        refine x_iald ly269 c91.1 c91.2 (xIb (n := 25) c91 (by decide)) (by decide) dX11_layGrows_175 (fun r92 => ?_)
        refine x_ishl dX11_layGrows_176 ?_
        refine x_ior dX11_layGrows_177 ?_
        refine x_istore [(4, iV (xOr l4_57 (xShl 1 (μ59 269 l5_58.toNat)))), (3, iV ((μ59 268 l5_58.toNat) + 1)), (0, .ref (x.2.2.1 + 260)), (1, iV b1), (2, iV b2), (5, iV l5_58)] dX11_layGrows_178 (show 4 < 6 by decide) rfl ?_
        refine x_iinc 5 rfl [(5, iV (l5_58 + 1)), (4, iV (xOr l4_57 (xShl 1 (μ59 269 l5_58.toNat)))), (3, iV ((μ59 268 l5_58.toNat) + 1)), (0, .ref (x.2.2.1 + 260)), (1, iV b1), (2, iV b2)] dX11_layGrows_180 (show 5 < 6 by decide) rfl ?_
        refine x_goto (tgt := 110) dX11_layGrows_183 (by decide) ?_
        exact x_sub [3, 4, 5, 2, 1, 0] rfl (hJ110 _ _ _ _ h)
    · have h := h.2 k82
      refine x_goto (tgt := 180) dX11_layGrows_136 (by decide) ?_
      refine x_iinc 5 rfl [(5, iV (l5_58 + 1)), (0, .ref (x.2.2.1 + 260)), (1, iV b1), (2, iV b2), (3, iV l3_56), (4, iV l4_57)] dX11_layGrows_180 (show 5 < 6 by decide) rfl ?_
      refine x_goto (tgt := 110) dX11_layGrows_183 (by decide) ?_
      exact x_sub [1, 2, 3, 4, 5, 0] rfl (hJ110 _ _ _ _ h)
set_option maxRecDepth 100000 in
set_option maxHeartbeats 4000000 in
theorem xX11_layGrows_b89 (x : xX)  (b1 : Int) (b2 : Int) (μ : xM) (Q : xM → Prop) (J48 : Int → xM → Prop) (J54 : Int → xM → Prop)   (hJ48 : ∀ (c1 : Int) (ν : xM), J48 c1 ν → xW x (xRm 4, RX11, cX11_layGrows, 6, none, fun _ _ => True) (xQv x Q) 48 [(0, .ref (x.2.2.1 + 260)), (1, iV c1)] [] ν) (hJ54 : ∀ (c2 : Int) (ν : xM), J54 c2 ν → xW x (xRm 4, RX11, cX11_layGrows, 6, none, fun _ _ => True) (xQv x Q) 54 [(0, .ref (x.2.2.1 + 260)), (1, iV b1), (2, iV c2)] [] ν) (h : tX11_layGrows_b89  b1 b2 μ Q J48 J54) : xW x (xRm 4, RX11, cX11_layGrows, 6, none, fun _ _ => True) (xQv x Q) 89 [(0, .ref (x.2.2.1 + 260)), (1, iV b1), (2, iV b2)] [] μ := by
  refine x_ran (fun n0 => ?_)
  have h := h n0
  refine x_iload_n 2 rfl dX11_layGrows_89 ?_
  refine x_bipush dX11_layGrows_90 (by decide) ?_
  obtain ⟨c54, h⟩ := h
  refine x_icmpne (tgt := 102) c54 ⟨by decide, by decide⟩ dX11_layGrows_92 (by decide) (fun k55 => ?_) (fun k55 => ?_)
  · have h := h.1 k55
    exact x_sub [0, 1, 2] rfl (xX11_layGrows_b102 x b1 b2 μ Q J48 J54  hJ48 hJ54 h)
  · have h := h.2 k55
    refine x_iload_n 1 rfl dX11_layGrows_95 ?_
    obtain ⟨c93, h⟩ := h
    refine x_ifle (tgt := 102) c93  dX11_layGrows_96 (by decide) (fun k94 => ?_) (fun k94 => ?_)
    · have h := h.1 k94
      exact x_sub [0, 1, 2] rfl (xX11_layGrows_b102 x b1 b2 μ Q J48 J54  hJ48 hJ54 h)
    · have h := h.2 k94
      refine x_goto (tgt := 227) dX11_layGrows_99 (by decide) ?_
      refine x_iinc 2 rfl [(2, iV (b2 + 1)), (0, .ref (x.2.2.1 + 260)), (1, iV b1)] dX11_layGrows_227 (show 2 < 6 by decide) rfl ?_
      refine x_goto (tgt := 54) dX11_layGrows_230 (by decide) ?_
      exact x_sub [1, 2, 0] rfl (hJ54 _ _ h)
set_option maxRecDepth 100000 in
set_option maxHeartbeats 4000000 in
theorem xX11_layGrows (x : xX)  (μ : xM) (Q : xM → Prop)  (h : tX11_layGrows  μ Q) : xMet x 4 yX11_layGrows cX11_layGrows 6 none [.ref (x.2.2.1 + 260)] μ (xQv x Q) := by
  refine xMet_of (by decide +kernel) (Nat.le_of_ble_eq_true rfl) ?_
  show xW x (xRm 4, RX11, cX11_layGrows, 6, none, fun _ _ => True) (xQv x Q) 0 [(0, .ref (x.2.2.1 + 260))] [] μ
  refine x_ran (fun n0 => ?_)
  have h := h n0 
  refine x_iconst dX11_layGrows_0 ?_
  refine x_istore_n [(1, iV 0), (0, .ref (x.2.2.1 + 260))] dX11_layGrows_1 (show 1 < 6 by decide) rfl ?_
  refine x_sub [1, 0] rfl ?_
  refine x_loop1 (fun l1_1 => [(0, .ref (x.2.2.1 + 260)), (1, iV l1_1)]) h (fun J2 l1_1 μ2 hJ2 h n3 => ?_)
  refine x_iload_n 1 rfl dX11_layGrows_2 ?_
  refine x_bipush dX11_layGrows_3 (by decide) ?_
  obtain ⟨c4, h⟩ := h
  refine x_icmpgt (tgt := 45) c4 ⟨by decide, by decide⟩ dX11_layGrows_5 (by decide) (fun k5 => ?_) (fun k5 => ?_)
  · have h := h.1 k5
    refine x_bipush dX11_layGrows_45 (by decide) ?_
    refine x_istore_n [(1, iV 6), (0, .ref (x.2.2.1 + 260))] dX11_layGrows_47 (show 1 < 6 by decide) rfl ?_
    refine x_sub [1, 0] rfl ?_
    refine x_loop1 (fun l1_6 => [(0, .ref (x.2.2.1 + 260)), (1, iV l1_6)]) h (fun J48 l1_6 μ7 hJ48 h n8 => ?_)
    refine x_iload_n 1 rfl dX11_layGrows_48 ?_
    obtain ⟨c9, h⟩ := h
    refine x_iflt (tgt := 239) c9  dX11_layGrows_49 (by decide) (fun k10 => ?_) (fun k10 => ?_)
    · have h := h.1 k10
      refine x_iconst dX11_layGrows_239 ?_
      refine x_istore_n [(1, iV 1), (0, .ref (x.2.2.1 + 260))] dX11_layGrows_240 (show 1 < 6 by decide) rfl ?_
      refine x_sub [1, 0] rfl ?_
      refine x_loop1 (fun l1_11 => [(0, .ref (x.2.2.1 + 260)), (1, iV l1_11)]) h (fun J241 l1_11 μ12 hJ241 h n13 => ?_)
      refine x_iload_n 1 rfl dX11_layGrows_241 ?_
      refine x_bipush dX11_layGrows_242 (by decide) ?_
      obtain ⟨c14, h⟩ := h
      refine x_icmpgt (tgt := 353) c14 ⟨by decide, by decide⟩ dX11_layGrows_244 (by decide) (fun k15 => ?_) (fun k15 => ?_)
      · have h := h.1 k15
        exact x_vret h rfl dX11_layGrows_353
      · have h := h.2 k15
        refine x_iconst dX11_layGrows_247 ?_
        refine x_istore_n [(2, iV 0), (0, .ref (x.2.2.1 + 260)), (1, iV l1_11)] dX11_layGrows_248 (show 2 < 6 by decide) rfl ?_
        refine x_sub [1, 2, 0] rfl ?_
        refine x_loop1 (fun l2_16 => [(0, .ref (x.2.2.1 + 260)), (1, iV l1_11), (2, iV l2_16)]) h (fun J249 l2_16 μ17 hJ249 h n18 => ?_)
        refine x_iload_n 2 rfl dX11_layGrows_249 ?_
        refine x_aload_n 0 rfl dX11_layGrows_250 ?_
        refine x_getR (j := 15) (r := 263) ly260 (by decide) rfl rfl (by decide) inT11 fl_X11_20 dX11_layGrows_251 ?_
        refine x_iconst dX11_layGrows_254 ?_
        refine x_iald ly263 (by decide) (by decide) ⟨by decide, by decide⟩ (by decide) dX11_layGrows_255 (fun r19 => ?_)
        obtain ⟨c20, h⟩ := h
        refine x_icmpge (tgt := 347) c20 r19 dX11_layGrows_256 (by decide) (fun k21 => ?_) (fun k21 => ?_)
        · have h := h.1 k21
          refine x_iinc 1 rfl [(1, iV (l1_11 + 1)), (0, .ref (x.2.2.1 + 260)), (2, iV l2_16)] dX11_layGrows_347 (show 1 < 6 by decide) rfl ?_
          refine x_goto (tgt := 241) dX11_layGrows_350 (by decide) ?_
          exact x_sub [1, 0] rfl (hJ241 _ _ h)
        · have h := h.2 k21
          refine x_aload_n 0 rfl dX11_layGrows_259 ?_
          refine x_getR (j := 15) (r := 263) ly260 (by decide) rfl rfl (by decide) inT11 fl_X11_20 dX11_layGrows_260 ?_
          refine x_bipush dX11_layGrows_263 (by decide) ?_
          refine x_iload_n 2 rfl dX11_layGrows_265 ?_
          refine x_iadd dX11_layGrows_266 ?_
          obtain ⟨c22, h⟩ := h
          refine x_iald ly263 c22.1 c22.2 (xIb (n := 322) c22 (by decide)) (by decide) dX11_layGrows_267 (fun r23 => ?_)
          refine x_iload_n 1 rfl dX11_layGrows_268 ?_
          obtain ⟨c24, h⟩ := h
          refine x_icmpeq (tgt := 275) r23 c24 dX11_layGrows_269 (by decide) (fun k25 => ?_) (fun k25 => ?_)
          · have h := h.1 k25
            refine x_aload_n 0 rfl dX11_layGrows_275 ?_
            refine x_getR (j := 23) (r := 270) ly260 (by decide) rfl rfl (by decide) inT11 fl_X11_41 dX11_layGrows_276 ?_
            refine x_iload_n 2 rfl dX11_layGrows_279 ?_
            refine x_iload_n 1 rfl dX11_layGrows_280 ?_
            obtain ⟨c26, h⟩ := h
            refine x_iast ly270 c26.1 c26.2 (xIb (n := 24) c26 (by decide)) c24 (by decide) dX11_layGrows_281 (fun μ27 e29 n28 => ?_)
            have h := h μ27 e29 n28
            refine x_iconst dX11_layGrows_282 ?_
            refine x_istore_n [(3, iV 0), (0, .ref (x.2.2.1 + 260)), (1, iV l1_11), (2, iV l2_16)] dX11_layGrows_283 (show 3 < 6 by decide) rfl ?_
            refine x_sub [1, 2, 3, 0] rfl ?_
            refine x_loop1 (fun l3_30 => [(0, .ref (x.2.2.1 + 260)), (1, iV l1_11), (2, iV l2_16), (3, iV l3_30)]) h (fun J284 l3_30 μ31 hJ284 h n32 => ?_)
            refine x_iload_n 3 rfl dX11_layGrows_284 ?_
            refine x_aload_n 0 rfl dX11_layGrows_285 ?_
            refine x_getR (j := 15) (r := 263) ly260 (by decide) rfl rfl (by decide) inT11 fl_X11_20 dX11_layGrows_286 ?_
            refine x_iconst dX11_layGrows_289 ?_
            refine x_iald ly263 (by decide) (by decide) ⟨by decide, by decide⟩ (by decide) dX11_layGrows_290 (fun r33 => ?_)
            obtain ⟨c34, h⟩ := h
            refine x_icmpge (tgt := 341) c34 r33 dX11_layGrows_291 (by decide) (fun k35 => ?_) (fun k35 => ?_)
            · have h := h.1 k35
              refine x_iinc 2 rfl [(2, iV (l2_16 + 1)), (0, .ref (x.2.2.1 + 260)), (1, iV l1_11), (3, iV l3_30)] dX11_layGrows_341 (show 2 < 6 by decide) rfl ?_
              refine x_goto (tgt := 249) dX11_layGrows_344 (by decide) ?_
              exact x_sub [1, 2, 0] rfl (hJ249 _ _ h)
            · have h := h.2 k35
              refine x_aload_n 0 rfl dX11_layGrows_294 ?_
              refine x_getR (j := 20) (r := 267) ly260 (by decide) rfl rfl (by decide) inT11 fl_X11_32 dX11_layGrows_295 ?_
              refine x_bipush dX11_layGrows_298 (by decide) ?_
              refine x_iload_n 3 rfl dX11_layGrows_300 ?_
              refine x_imul dX11_layGrows_301 ?_
              refine x_iload_n 2 rfl dX11_layGrows_302 ?_
              refine x_iadd dX11_layGrows_303 ?_
              obtain ⟨c36, h⟩ := h
              refine x_iald ly267 c36.1 c36.2 (xIb (n := 600) c36 (by decide)) (by decide) dX11_layGrows_304 (fun r37 => ?_)
              refine x_iflt (tgt := 335) r37  dX11_layGrows_305 (by decide) (fun k38 => ?_) (fun k38 => ?_)
              · have h := h.1 k38
                refine x_iinc 3 rfl [(3, iV (l3_30 + 1)), (0, .ref (x.2.2.1 + 260)), (1, iV l1_11), (2, iV l2_16)] dX11_layGrows_335 (show 3 < 6 by decide) rfl ?_
                refine x_goto (tgt := 284) dX11_layGrows_338 (by decide) ?_
                exact x_sub [1, 2, 3, 0] rfl (hJ284 _ _ h)
              · have h := h.2 k38
                refine x_aload_n 0 rfl dX11_layGrows_308 ?_
                refine x_getR (j := 23) (r := 270) ly260 (by decide) rfl rfl (by decide) inT11 fl_X11_41 dX11_layGrows_309 ?_
                refine x_iload_n 3 rfl dX11_layGrows_312 ?_
                obtain ⟨c39, h⟩ := h
                refine x_iald ly270 c39.1 c39.2 (xIb (n := 24) c39 (by decide)) (by decide) dX11_layGrows_313 (fun r40 => ?_)
                refine x_aload_n 0 rfl dX11_layGrows_314 ?_
                refine x_getR (j := 23) (r := 270) ly260 (by decide) rfl rfl (by decide) inT11 fl_X11_41 dX11_layGrows_315 ?_
                refine x_iload_n 2 rfl dX11_layGrows_318 ?_
                obtain ⟨c41, h⟩ := h
                refine x_iald ly270 c41.1 c41.2 (xIb (n := 24) c41 (by decide)) (by decide) dX11_layGrows_319 (fun r42 => ?_)
                refine x_icmpge (tgt := 335) r40 r42 dX11_layGrows_320 (by decide) (fun k43 => ?_) (fun k43 => ?_)
                · have h := h.1 k43
                  refine x_iinc 3 rfl [(3, iV (l3_30 + 1)), (0, .ref (x.2.2.1 + 260)), (1, iV l1_11), (2, iV l2_16)] dX11_layGrows_335 (show 3 < 6 by decide) rfl ?_
                  refine x_goto (tgt := 284) dX11_layGrows_338 (by decide) ?_
                  exact x_sub [1, 2, 3, 0] rfl (hJ284 _ _ h)
                · have h := h.2 k43
                  refine x_aload_n 0 rfl dX11_layGrows_323 ?_
                  refine x_getR (j := 23) (r := 270) ly260 (by decide) rfl rfl (by decide) inT11 fl_X11_41 dX11_layGrows_324 ?_
                  refine x_iload_n 2 rfl dX11_layGrows_327 ?_
                  refine x_aload_n 0 rfl dX11_layGrows_328 ?_
                  refine x_getR (j := 23) (r := 270) ly260 (by decide) rfl rfl (by decide) inT11 fl_X11_41 dX11_layGrows_329 ?_
                  refine x_iload_n 3 rfl dX11_layGrows_332 ?_
                  refine x_iald ly270 c39.1 c39.2 (xIb (n := 24) c39 (by decide)) (by decide) dX11_layGrows_333 (fun r44 => ?_)
                  refine x_iast ly270 c41.1 c41.2 (xIb (n := 24) c41 (by decide)) r44 (by decide) dX11_layGrows_334 (fun μ45 e47 n46 => ?_)
                  have h := h μ45 e47 n46
                  refine x_iinc 3 rfl [(3, iV (l3_30 + 1)), (0, .ref (x.2.2.1 + 260)), (1, iV l1_11), (2, iV l2_16)] dX11_layGrows_335 (show 3 < 6 by decide) rfl ?_
                  refine x_goto (tgt := 284) dX11_layGrows_338 (by decide) ?_
                  exact x_sub [1, 2, 3, 0] rfl (hJ284 _ _ h)
          · have h := h.2 k25
            refine x_goto (tgt := 341) dX11_layGrows_272 (by decide) ?_
            refine x_iinc 2 rfl [(2, iV (l2_16 + 1)), (0, .ref (x.2.2.1 + 260)), (1, iV l1_11)] dX11_layGrows_341 (show 2 < 6 by decide) rfl ?_
            refine x_goto (tgt := 249) dX11_layGrows_344 (by decide) ?_
            exact x_sub [1, 2, 0] rfl (hJ249 _ _ h)
    · have h := h.2 k10
      refine x_iconst dX11_layGrows_52 ?_
      refine x_istore_n [(2, iV 0), (0, .ref (x.2.2.1 + 260)), (1, iV l1_6)] dX11_layGrows_53 (show 2 < 6 by decide) rfl ?_
      refine x_sub [1, 2, 0] rfl ?_
      refine x_loop1 (fun l2_48 => [(0, .ref (x.2.2.1 + 260)), (1, iV l1_6), (2, iV l2_48)]) h (fun J54 l2_48 μ49 hJ54 h n50 => ?_)
      refine x_iload_n 2 rfl dX11_layGrows_54 ?_
      refine x_bipush dX11_layGrows_55 (by decide) ?_
      obtain ⟨c51, h⟩ := h
      refine x_icmpgt (tgt := 233) c51 ⟨by decide, by decide⟩ dX11_layGrows_57 (by decide) (fun k52 => ?_) (fun k52 => ?_)
      · have h := h.1 k52
        refine x_iinc 1 rfl [(1, iV (l1_6 + (-1))), (0, .ref (x.2.2.1 + 260)), (2, iV l2_48)] dX11_layGrows_233 (show 1 < 6 by decide) rfl ?_
        refine x_goto (tgt := 48) dX11_layGrows_236 (by decide) ?_
        exact x_sub [1, 0] rfl (hJ48 _ _ h)
      · have h := h.2 k52
        refine x_iload_n 2 rfl dX11_layGrows_60 ?_
        refine x_bipush dX11_layGrows_61 (by decide) ?_
        refine x_icmpeq (tgt := 89) c51 ⟨by decide, by decide⟩ dX11_layGrows_63 (by decide) (fun k53 => ?_) (fun k53 => ?_)
        · have h := h.1 k53
          exact x_sub [0, 1, 2] rfl (xX11_layGrows_b89 x l1_6 l2_48 μ49 Q J48 J54  hJ48 hJ54 h)
        · have h := h.2 k53
          refine x_iload_n 2 rfl dX11_layGrows_66 ?_
          refine x_aload_n 0 rfl dX11_layGrows_67 ?_
          refine x_getR (j := 15) (r := 263) ly260 (by decide) rfl rfl (by decide) inT11 fl_X11_20 dX11_layGrows_68 ?_
          refine x_iconst dX11_layGrows_71 ?_
          refine x_iald ly263 (by decide) (by decide) ⟨by decide, by decide⟩ (by decide) dX11_layGrows_72 (fun r95 => ?_)
          refine x_icmpge (tgt := 227) c51 r95 dX11_layGrows_73 (by decide) (fun k96 => ?_) (fun k96 => ?_)
          · have h := h.1 k96
            refine x_iinc 2 rfl [(2, iV (l2_48 + 1)), (0, .ref (x.2.2.1 + 260)), (1, iV l1_6)] dX11_layGrows_227 (show 2 < 6 by decide) rfl ?_
            refine x_goto (tgt := 54) dX11_layGrows_230 (by decide) ?_
            exact x_sub [1, 2, 0] rfl (hJ54 _ _ h)
          · have h := h.2 k96
            refine x_aload_n 0 rfl dX11_layGrows_76 ?_
            refine x_getR (j := 15) (r := 263) ly260 (by decide) rfl rfl (by decide) inT11 fl_X11_20 dX11_layGrows_77 ?_
            refine x_bipush dX11_layGrows_80 (by decide) ?_
            refine x_iload_n 2 rfl dX11_layGrows_82 ?_
            refine x_iadd dX11_layGrows_83 ?_
            obtain ⟨c97, h⟩ := h
            refine x_iald ly263 c97.1 c97.2 (xIb (n := 322) c97 (by decide)) (by decide) dX11_layGrows_84 (fun r98 => ?_)
            refine x_iload_n 1 rfl dX11_layGrows_85 ?_
            obtain ⟨c99, h⟩ := h
            refine x_icmpne (tgt := 227) r98 c99 dX11_layGrows_86 (by decide) (fun k100 => ?_) (fun k100 => ?_)
            · have h := h.1 k100
              refine x_iinc 2 rfl [(2, iV (l2_48 + 1)), (0, .ref (x.2.2.1 + 260)), (1, iV l1_6)] dX11_layGrows_227 (show 2 < 6 by decide) rfl ?_
              refine x_goto (tgt := 54) dX11_layGrows_230 (by decide) ?_
              exact x_sub [1, 2, 0] rfl (hJ54 _ _ h)
            · have h := h.2 k100
              exact x_sub [0, 1, 2] rfl (xX11_layGrows_b89 x l1_6 l2_48 μ49 Q J48 J54  hJ48 hJ54 h)
  · have h := h.2 k5
    refine x_iconst dX11_layGrows_8 ?_
    refine x_istore_n [(2, iV 0), (0, .ref (x.2.2.1 + 260)), (1, iV l1_1)] dX11_layGrows_9 (show 2 < 6 by decide) rfl ?_
    refine x_sub [1, 2, 0] rfl ?_
    refine x_loop1 (fun l2_101 => [(0, .ref (x.2.2.1 + 260)), (1, iV l1_1), (2, iV l2_101)]) h (fun J10 l2_101 μ102 hJ10 h n103 => ?_)
    refine x_iload_n 2 rfl dX11_layGrows_10 ?_
    refine x_bipush dX11_layGrows_11 (by decide) ?_
    obtain ⟨c104, h⟩ := h
    refine x_icmpge (tgt := 39) c104 ⟨by decide, by decide⟩ dX11_layGrows_13 (by decide) (fun k105 => ?_) (fun k105 => ?_)
    · have h := h.1 k105
      refine x_iinc 1 rfl [(1, iV (l1_1 + 1)), (0, .ref (x.2.2.1 + 260)), (2, iV l2_101)] dX11_layGrows_39 (show 1 < 6 by decide) rfl ?_
      refine x_goto (tgt := 2) dX11_layGrows_42 (by decide) ?_
      exact x_sub [1, 0] rfl (hJ2 _ _ h)
    · have h := h.2 k105
      refine x_aload_n 0 rfl dX11_layGrows_16 ?_
      refine x_getR (j := 20) (r := 267) ly260 (by decide) rfl rfl (by decide) inT11 fl_X11_32 dX11_layGrows_17 ?_
      refine x_bipush dX11_layGrows_20 (by decide) ?_
      refine x_iload_n 1 rfl dX11_layGrows_22 ?_
      refine x_imul dX11_layGrows_23 ?_
      refine x_iload_n 2 rfl dX11_layGrows_24 ?_
      refine x_iadd dX11_layGrows_25 ?_
      refine x_aload_n 0 rfl dX11_layGrows_26 ?_
      refine x_iload_n 1 rfl dX11_layGrows_27 ?_
      refine x_iload_n 2 rfl dX11_layGrows_28 ?_
      obtain ⟨c106, h⟩ := h
      refine x_callVi (As := [iV l1_1, iV l2_101]) (rest := [iV ((24 * l1_1) + l2_101), .ref (x.2.2.1 + 267)]) cal_X11_growth ins_X11_growth sel_X11_growth ly260 (by decide) rfl (xX11_growth x l1_1 l2_101 _ _ c106 c104 h) rfl ml_X11_237 (xRoom (Nat.le_of_ble_eq_true rfl)) (Nat.le_of_ble_eq_true rfl) dX11_layGrows_29 (fun r109 μ107 i110 n108 h => ?_)
      have h := h i110 n108
      obtain ⟨c111, h⟩ := h
      refine x_iast ly267 c111.1 c111.2 (xIb (n := 600) c111 (by decide)) i110 (by decide) dX11_layGrows_32 (fun μ112 e114 n113 => ?_)
      have h := h μ112 e114 n113
      refine x_iinc 2 rfl [(2, iV (l2_101 + 1)), (0, .ref (x.2.2.1 + 260)), (1, iV l1_1)] dX11_layGrows_33 (show 2 < 6 by decide) rfl ?_
      refine x_goto (tgt := 10) dX11_layGrows_36 (by decide) ?_
      exact x_sub [1, 2, 0] rfl (hJ10 _ _ h)
set_option maxRecDepth 100000 in
set_option maxHeartbeats 4000000 in
theorem xX11_begin (x : xX) (p1 : Int) (μ : xM) (Q : xM → Prop) (hp1 : xIn p1) (h : tX11_begin p1 μ Q) : xMet x 1 yX11_begin cX11_begin 3 none [.ref (x.2.2.1 + 260), iV p1] μ (xQv x Q) := by
  refine xMet_of (by decide +kernel) (Nat.le_of_ble_eq_true rfl) ?_
  show xW x (xRm 1, RX11, cX11_begin, 3, none, fun _ _ => True) (xQv x Q) 0 [(0, .ref (x.2.2.1 + 260)), (1, iV p1)] [] μ
  refine x_ran (fun n0 => ?_)
  have h := h n0 hp1
  refine x_iconst dX11_begin_0 ?_
  refine x_istore_n [(2, iV 0), (0, .ref (x.2.2.1 + 260)), (1, iV p1)] dX11_begin_1 (show 2 < 3 by decide) rfl ?_
  refine x_sub [1, 2, 0] rfl ?_
  refine x_loop1 (fun l2_1 => [(0, .ref (x.2.2.1 + 260)), (1, iV p1), (2, iV l2_1)]) h (fun J2 l2_1 μ2 hJ2 h n3 => ?_)
  refine x_iload_n 2 rfl dX11_begin_2 ?_
  refine x_iconst dX11_begin_3 ?_
  obtain ⟨c4, h⟩ := h
  refine x_icmpge (tgt := 21) c4 ⟨by decide, by decide⟩ dX11_begin_4 (by decide) (fun k5 => ?_) (fun k5 => ?_)
  · have h := h.1 k5
    refine x_aload_n 0 rfl dX11_begin_21 ?_
    refine x_getR (j := 17) (r := 265) ly260 (by decide) rfl rfl (by decide) inT11 fl_X11_26 dX11_begin_22 ?_
    refine x_iconst dX11_begin_25 ?_
    refine x_iload_n 1 rfl dX11_begin_26 ?_
    refine x_iast ly265 (by decide) (by decide) ⟨by decide, by decide⟩ hp1 (by decide) dX11_begin_27 (fun μ6 e8 n7 => ?_)
    have h := h μ6 e8 n7
    refine x_aload_n 0 rfl dX11_begin_28 ?_
    refine x_getR (j := 17) (r := 265) ly260 (by decide) rfl rfl (by decide) inT11 fl_X11_26 dX11_begin_29 ?_
    refine x_iconst dX11_begin_32 ?_
    refine x_iconst dX11_begin_33 ?_
    refine x_iast ly265 (by decide) (by decide) ⟨by decide, by decide⟩ ⟨by decide, by decide⟩ (by decide) dX11_begin_34 (fun μ9 e11 n10 => ?_)
    have h := h μ9 e11 n10
    refine x_aload_n 0 rfl dX11_begin_35 ?_
    refine x_getR (j := 17) (r := 265) ly260 (by decide) rfl rfl (by decide) inT11 fl_X11_26 dX11_begin_36 ?_
    refine x_iconst dX11_begin_39 ?_
    refine x_iconst dX11_begin_40 ?_
    refine x_iast ly265 (by decide) (by decide) ⟨by decide, by decide⟩ ⟨by decide, by decide⟩ (by decide) dX11_begin_41 (fun μ12 e14 n13 => ?_)
    have h := h μ12 e14 n13
    exact x_vret h rfl dX11_begin_42
  · have h := h.2 k5
    refine x_aload_n 0 rfl dX11_begin_7 ?_
    refine x_getR (j := 17) (r := 265) ly260 (by decide) rfl rfl (by decide) inT11 fl_X11_26 dX11_begin_8 ?_
    refine x_iload_n 2 rfl dX11_begin_11 ?_
    refine x_bipush dX11_begin_12 (by decide) ?_
    obtain ⟨c15, h⟩ := h
    refine x_iast ly265 c15.1 c15.2 (xIb (n := 6) c15 (by decide)) ⟨by decide, by decide⟩ (by decide) dX11_begin_14 (fun μ16 e18 n17 => ?_)
    have h := h μ16 e18 n17
    refine x_iinc 2 rfl [(2, iV (l2_1 + 1)), (0, .ref (x.2.2.1 + 260)), (1, iV p1)] dX11_begin_15 (show 2 < 3 by decide) rfl ?_
    refine x_goto (tgt := 2) dX11_begin_18 (by decide) ?_
    exact x_sub [1, 2, 0] rfl (hJ2 _ _ h)
set_option maxRecDepth 100000 in
set_option maxHeartbeats 4000000 in
theorem xX11_inn_b171 (x : xX) (p1 : Int)  (μ : xM) (Q : Int → xM → Prop)  (hp1 : xIn p1)  (h : tX11_inn_b171 p1  μ Q ) : xW x (xRm 11, RX11, cX11_inn, 3, (some .int), fun _ _ => True) (xQi x Q) 171 [(0, .ref (x.2.2.1 + 260))] [] μ := by
  refine x_ran (fun n0 => ?_)
  have h := h n0
  refine x_aload_n 0 rfl dX11_inn_171 ?_
  refine x_getI (j := 13) ly260 (by decide) rfl rfl (by decide) inT11 fl_X11_112 dX11_inn_172 (fun r41 => ?_)
  refine x_ifeq (tgt := 184) r41  dX11_inn_175 (by decide) (fun k42 => ?_) (fun k42 => ?_)
  · have h := h.1 k42
    refine x_iconst dX11_inn_184 ?_
    refine x_istore_n [(2, iV 0), (0, .ref (x.2.2.1 + 260))] dX11_inn_185 (show 2 < 3 by decide) rfl ?_
    refine x_sub [1, 0] rfl ?_
    refine x_loop1 (fun l2_43 => [(0, .ref (x.2.2.1 + 260)), (2, iV l2_43)]) h (fun J186 l2_43 μ44 hJ186 h n45 => ?_)
    refine x_iload_n 1 rfl dX11_inn_186 ?_
    refine x_sipush dX11_inn_187 (by decide) ?_
    obtain ⟨c46, h⟩ := h
    refine x_icmpge (tgt := 211) c46 ⟨by decide, by decide⟩ dX11_inn_190 (by decide) (fun k47 => ?_) (fun k47 => ?_)
    · have h := h.1 k47
      refine x_aload_n 0 rfl dX11_inn_211 ?_
      refine x_iconst dX11_inn_212 ?_
      refine x_putZ (j := 14) ly260 (by decide) rfl rfl (by decide) inT11 fl_X11_164 tyX11 tyX11_ok nmX11 rfl (Or.inr rfl) (by decide +kernel) dX11_inn_213 (fun μ48 e50 n49 => ?_)
      have h := h μ48 e50 n49
      refine x_aload_n 0 rfl dX11_inn_216 ?_
      refine x_callVv (As := []) (rest := []) cal_X11_layGrows ins_X11_layGrows sel_X11_layGrows ly260 (by decide) rfl (xX11_layGrows x  _ _  h) rfl ml_X11_167 (xRoom (Nat.le_of_ble_eq_true rfl)) (Nat.le_of_ble_eq_true rfl) dX11_inn_217 (fun μ51 n52 h => ?_)
      have h := h n52
      refine x_aload_n 0 rfl dX11_inn_220 ?_
      refine x_iconst dX11_inn_221 ?_
      refine x_callVv (As := [iV 0]) (rest := []) cal_X11_begin ins_X11_begin sel_X11_begin ly260 (by decide) rfl (xX11_begin x 0 _ _ ⟨by decide, by decide⟩ h) rfl ml_X11_170 (xRoom (Nat.le_of_ble_eq_true rfl)) (Nat.le_of_ble_eq_true rfl) dX11_inn_222 (fun μ53 n54 h => ?_)
      have h := h n54
      refine x_aload_n 0 rfl dX11_inn_225 ?_
      refine x_iconst dX11_inn_226 ?_
      refine x_putI (j := 19) ly260 (by decide) rfl rfl (by decide) inT11 fl_X11_174 tyX11 tyX11_ok nmX11 rfl ⟨by decide, by decide⟩ (by decide +kernel) dX11_inn_227 (fun μ55 e57 n56 => ?_)
      have h := h μ55 e57 n56
      refine x_aload_n 0 rfl dX11_inn_230 ?_
      refine x_getR (j := 15) (r := 263) ly260 (by decide) rfl rfl (by decide) inT11 fl_X11_20 dX11_inn_231 ?_
      refine x_iconst dX11_inn_234 ?_
      refine x_iald ly263 (by decide) (by decide) ⟨by decide, by decide⟩ (by decide) dX11_inn_235 (fun r58 => ?_)
      exact x_iret h r58 rfl dX11_inn_236
    · have h := h.2 k47
      refine x_aload_n 0 rfl dX11_inn_193 ?_
      refine x_getR (j := 15) (r := 263) ly260 (by decide) rfl rfl (by decide) inT11 fl_X11_20 dX11_inn_194 ?_
      refine x_iload_n 1 rfl dX11_inn_197 ?_
      refine x_aload_n 0 rfl dX11_inn_198 ?_
      refine x_getR (j := 16) (r := 264) ly260 (by decide) rfl rfl (by decide) inT11 fl_X11_23 dX11_inn_199 ?_
      refine x_iload_n 1 rfl dX11_inn_202 ?_
      obtain ⟨c59, h⟩ := h
      refine x_iald ly264 c59.1 c59.2 (xIb (n := 322) c59 (by decide)) (by decide) dX11_inn_203 (fun r60 => ?_)
      refine x_iast ly263 c59.1 c59.2 (xIb (n := 322) c59 (by decide)) r60 (by decide) dX11_inn_204 (fun μ61 e63 n62 => ?_)
      have h := h μ61 e63 n62
      refine x_iinc 1 rfl [(2, iV (l2_43 + 1)), (0, .ref (x.2.2.1 + 260))] dX11_inn_205 (show 2 < 3 by decide) rfl ?_
      refine x_goto (tgt := 186) dX11_inn_208 (by decide) ?_
      exact x_sub [1, 0] rfl (hJ186 _ _ h)
  · have h := h.2 k42
    refine x_aload_n 0 rfl dX11_inn_178 ?_
    refine x_iconst dX11_inn_179 ?_
    refine x_callVi (As := [iV 4]) (rest := []) cal_X11_no ins_X11_no sel_X11_no ly260 (by decide) rfl (xX11_no x 4 _ _ ⟨by decide, by decide⟩ h) rfl ml_X11_158 (xRoom (Nat.le_of_ble_eq_true rfl)) (Nat.le_of_ble_eq_true rfl) dX11_inn_180 (fun r66 μ64 i67 n65 h => ?_)
    have h := h i67 n65
    exact x_iret h i67 rfl dX11_inn_183
set_option maxRecDepth 100000 in
set_option maxHeartbeats 4000000 in
theorem xX11_inn_b161 (x : xX) (p1 : Int)  (μ : xM) (Q : Int → xM → Prop)  (hp1 : xIn p1)  (h : tX11_inn_b161 p1  μ Q ) : xW x (xRm 11, RX11, cX11_inn, 3, (some .int), fun _ _ => True) (xQi x Q) 161 [(0, .ref (x.2.2.1 + 260))] [] μ := by
  refine x_ran (fun n0 => ?_)
  have h := h n0
  refine x_aload_n 0 rfl dX11_inn_161 ?_
  refine x_bipush dX11_inn_162 (by decide) ?_
  refine x_aload_n 0 rfl dX11_inn_164 ?_
  refine x_getI (j := 4) ly260 (by decide) rfl rfl (by decide) inT11 fl_X11_93 dX11_inn_165 (fun r70 => ?_)
  refine x_callVv (As := [iV 6, iV (μ 260 4)]) (rest := []) cal_X11_wrong ins_X11_wrong sel_X11_wrong ly260 (by decide) rfl (xX11_wrong x 6 (μ 260 4) _ _ ⟨by decide, by decide⟩ r70 h) rfl ml_X11_139 (xRoom (Nat.le_of_ble_eq_true rfl)) (Nat.le_of_ble_eq_true rfl) dX11_inn_168 (fun μ71 n72 h => ?_)
  have h := h n72
  exact x_sub [0] rfl (xX11_inn_b171 x p1 μ71 Q  hp1 h)
set_option maxRecDepth 100000 in
set_option maxHeartbeats 4000000 in
theorem xX11_inn_b127 (x : xX) (p1 : Int)  (μ : xM) (Q : Int → xM → Prop)  (hp1 : xIn p1)  (h : tX11_inn_b127 p1  μ Q ) : xW x (xRm 11, RX11, cX11_inn, 3, (some .int), fun _ _ => True) (xQi x Q) 127 [(0, .ref (x.2.2.1 + 260))] [] μ := by
  refine x_ran (fun n0 => ?_)
  have h := h n0
  refine x_aload_n 0 rfl dX11_inn_127 ?_
  refine x_getI (j := 13) ly260 (by decide) rfl rfl (by decide) inT11 fl_X11_112 dX11_inn_128 (fun r39 => ?_)
  refine x_ifne (tgt := 171) r39  dX11_inn_131 (by decide) (fun k40 => ?_) (fun k40 => ?_)
  · have h := h.1 k40
    exact x_sub [0] rfl (xX11_inn_b171 x p1 μ Q  hp1 h)
  · have h := h.2 k40
    refine x_aload_n 0 rfl dX11_inn_134 ?_
    refine x_getR (j := 16) (r := 264) ly260 (by decide) rfl rfl (by decide) inT11 fl_X11_23 dX11_inn_135 ?_
    refine x_iconst dX11_inn_138 ?_
    refine x_iald ly264 (by decide) (by decide) ⟨by decide, by decide⟩ (by decide) dX11_inn_139 (fun r68 => ?_)
    refine x_ifeq (tgt := 161) r68  dX11_inn_140 (by decide) (fun k69 => ?_) (fun k69 => ?_)
    · have h := h.1 k69
      exact x_sub [0] rfl (xX11_inn_b161 x p1 μ Q  hp1 h)
    · have h := h.2 k69
      refine x_aload_n 0 rfl dX11_inn_143 ?_
      refine x_getR (j := 16) (r := 264) ly260 (by decide) rfl rfl (by decide) inT11 fl_X11_23 dX11_inn_144 ?_
      refine x_iconst dX11_inn_147 ?_
      refine x_iald ly264 (by decide) (by decide) ⟨by decide, by decide⟩ (by decide) dX11_inn_148 (fun r73 => ?_)
      refine x_ifeq (tgt := 161) r73  dX11_inn_149 (by decide) (fun k74 => ?_) (fun k74 => ?_)
      · have h := h.1 k74
        exact x_sub [0] rfl (xX11_inn_b161 x p1 μ Q  hp1 h)
      · have h := h.2 k74
        refine x_aload_n 0 rfl dX11_inn_152 ?_
        refine x_getR (j := 16) (r := 264) ly260 (by decide) rfl rfl (by decide) inT11 fl_X11_23 dX11_inn_153 ?_
        refine x_iconst dX11_inn_156 ?_
        refine x_iald ly264 (by decide) (by decide) ⟨by decide, by decide⟩ (by decide) dX11_inn_157 (fun r75 => ?_)
        refine x_ifne (tgt := 171) r75  dX11_inn_158 (by decide) (fun k76 => ?_) (fun k76 => ?_)
        · have h := h.1 k76
          exact x_sub [0] rfl (xX11_inn_b171 x p1 μ Q  hp1 h)
        · have h := h.2 k76
          exact x_sub [0] rfl (xX11_inn_b161 x p1 μ Q  hp1 h)
set_option maxRecDepth 100000 in
set_option maxHeartbeats 4000000 in
theorem xX11_inn_b104 (x : xX) (p1 : Int)  (μ : xM) (Q : Int → xM → Prop)  (hp1 : xIn p1)  (h : tX11_inn_b104 p1  μ Q ) : xW x (xRm 11, RX11, cX11_inn, 3, (some .int), fun _ _ => True) (xQi x Q) 104 [(0, .ref (x.2.2.1 + 260))] [] μ := by
  refine x_ran (fun n0 => ?_)
  have h := h n0
  refine x_aload_n 0 rfl dX11_inn_104 ?_
  refine x_getI (j := 13) ly260 (by decide) rfl rfl (by decide) inT11 fl_X11_112 dX11_inn_105 (fun r37 => ?_)
  refine x_ifne (tgt := 127) r37  dX11_inn_108 (by decide) (fun k38 => ?_) (fun k38 => ?_)
  · have h := h.1 k38
    exact x_sub [0] rfl (xX11_inn_b127 x p1 μ Q  hp1 h)
  · have h := h.2 k38
    refine x_aload_n 0 rfl dX11_inn_111 ?_
    refine x_getI (j := 6) ly260 (by decide) rfl rfl (by decide) inT11 fl_X11_102 dX11_inn_112 (fun r77 => ?_)
    refine x_ifeq (tgt := 127) r77  dX11_inn_115 (by decide) (fun k78 => ?_) (fun k78 => ?_)
    · have h := h.1 k78
      exact x_sub [0] rfl (xX11_inn_b127 x p1 μ Q  hp1 h)
    · have h := h.2 k78
      refine x_aload_n 0 rfl dX11_inn_118 ?_
      refine x_iconst dX11_inn_119 ?_
      refine x_aload_n 0 rfl dX11_inn_120 ?_
      refine x_getI (j := 4) ly260 (by decide) rfl rfl (by decide) inT11 fl_X11_93 dX11_inn_121 (fun r79 => ?_)
      refine x_callVv (As := [iV 1, iV (μ 260 4)]) (rest := []) cal_X11_wrong ins_X11_wrong sel_X11_wrong ly260 (by decide) rfl (xX11_wrong x 1 (μ 260 4) _ _ ⟨by decide, by decide⟩ r79 h) rfl ml_X11_139 (xRoom (Nat.le_of_ble_eq_true rfl)) (Nat.le_of_ble_eq_true rfl) dX11_inn_124 (fun μ80 n81 h => ?_)
      have h := h n81
      exact x_sub [0] rfl (xX11_inn_b127 x p1 μ80 Q  hp1 h)
set_option maxRecDepth 100000 in
set_option maxHeartbeats 4000000 in
theorem xX11_inn (x : xX) (p1 : Int) (μ : xM) (Q : Int → xM → Prop) (hp1 : xIn p1) (h : tX11_inn p1 μ Q) : xMet x 11 yX11_inn cX11_inn 3 (some .int) [.ref (x.2.2.1 + 260), iV p1] μ (xQi x Q) := by
  refine xMet_of (by decide +kernel) (Nat.le_of_ble_eq_true rfl) ?_
  show xW x (xRm 11, RX11, cX11_inn, 3, (some .int), fun _ _ => True) (xQi x Q) 0 [(0, .ref (x.2.2.1 + 260)), (1, iV p1)] [] μ
  refine x_ran (fun n0 => ?_)
  have h := h n0 hp1
  refine x_aload_n 0 rfl dX11_inn_0 ?_
  refine x_callVv (As := []) (rest := []) cal_X11_good ins_X11_good sel_X11_good ly260 (by decide) rfl (xX11_good x  _ _  h) rfl ml_X11_155 (xRoom (Nat.le_of_ble_eq_true rfl)) (Nat.le_of_ble_eq_true rfl) dX11_inn_1 (fun μ1 n2 h => ?_)
  have h := h n2
  refine x_iload_n 1 rfl dX11_inn_4 ?_
  refine x_iconst dX11_inn_5 ?_
  refine x_aload_n 0 rfl dX11_inn_6 ?_
  refine x_getI (j := 2) ly260 (by decide) rfl rfl (by decide) inT11 fl_X11_80 dX11_inn_7 (fun r3 => ?_)
  refine x_callSz (As := [iV p1, iV 0, iV (μ1 260 2)]) (rest := []) cal_X11_within sta_X11_within (xX11_within x p1 0 (μ1 260 2) _ _ hp1 ⟨by decide, by decide⟩ r3 h) rfl ml_X11_143 (xRoom (Nat.le_of_ble_eq_true rfl)) (Nat.le_of_ble_eq_true rfl) dX11_inn_10 (fun r6 μ4 i7 n5 h => ?_)
  have h := h i7 n5
  refine x_ifne (tgt := 22) (xIz i7)  dX11_inn_13 (by decide) (fun k8 => ?_) (fun k8 => ?_)
  · have h := h.1 (xz1 i7 k8)
    refine x_aload_n 0 rfl dX11_inn_22 ?_
    refine x_iconst dX11_inn_23 ?_
    refine x_putI (j := 2) ly260 (by decide) rfl rfl (by decide) inT11 fl_X11_80 tyX11 tyX11_ok nmX11 rfl ⟨by decide, by decide⟩ (by decide +kernel) dX11_inn_24 (fun μ9 e11 n10 => ?_)
    have h := h μ9 e11 n10
    refine x_aload_n 0 rfl dX11_inn_27 ?_
    refine x_iconst dX11_inn_28 ?_
    refine x_putI (j := 9) ly260 (by decide) rfl rfl (by decide) inT11 fl_X11_116 tyX11 tyX11_ok nmX11 rfl ⟨by decide, by decide⟩ (by decide +kernel) dX11_inn_29 (fun μ12 e14 n13 => ?_)
    have h := h μ12 e14 n13
    refine x_aload_n 0 rfl dX11_inn_32 ?_
    refine x_iconst dX11_inn_33 ?_
    refine x_putZ (j := 13) ly260 (by decide) rfl rfl (by decide) inT11 fl_X11_112 tyX11 tyX11_ok nmX11 rfl (Or.inl rfl) (by decide +kernel) dX11_inn_34 (fun μ15 e17 n16 => ?_)
    have h := h μ15 e17 n16
    refine x_iconst dX11_inn_37 ?_
    refine x_istore_n [(2, iV 0), (0, .ref (x.2.2.1 + 260)), (1, iV p1)] dX11_inn_38 (show 2 < 3 by decide) rfl ?_
    refine x_sub [1, 2, 0] rfl ?_
    refine x_loop1 (fun l2_18 => [(0, .ref (x.2.2.1 + 260)), (1, iV p1), (2, iV l2_18)]) h (fun J39 l2_18 μ19 hJ39 h n20 => ?_)
    refine x_iload_n 2 rfl dX11_inn_39 ?_
    refine x_sipush dX11_inn_40 (by decide) ?_
    obtain ⟨c21, h⟩ := h
    refine x_icmpge (tgt := 59) c21 ⟨by decide, by decide⟩ dX11_inn_43 (by decide) (fun k22 => ?_) (fun k22 => ?_)
    · have h := h.1 k22
      refine x_aload_n 0 rfl dX11_inn_59 ?_
      refine x_iload_n 1 rfl dX11_inn_60 ?_
      refine x_putI (j := 3) ly260 (by decide) rfl rfl (by decide) inT11 fl_X11_83 tyX11 tyX11_ok nmX11 rfl hp1 (by decide +kernel) dX11_inn_61 (fun μ23 e25 n24 => ?_)
      have h := h μ23 e25 n24
      refine x_aload_n 0 rfl dX11_inn_64 ?_
      refine x_iconst dX11_inn_65 ?_
      refine x_putI (j := 5) ly260 (by decide) rfl rfl (by decide) inT11 fl_X11_86 tyX11 tyX11_ok nmX11 rfl ⟨by decide, by decide⟩ (by decide +kernel) dX11_inn_66 (fun μ26 e28 n27 => ?_)
      have h := h μ26 e28 n27
      refine x_aload_n 0 rfl dX11_inn_69 ?_
      refine x_callVv (As := []) (rest := []) cal_X11_next ins_X11_next sel_X11_next ly260 (by decide) rfl (xX11_next x  _ _  h) rfl ml_X11_133 (xRoom (Nat.le_of_ble_eq_true rfl)) (Nat.le_of_ble_eq_true rfl) dX11_inn_70 (fun μ29 n30 h => ?_)
      have h := h n30
      refine x_aload_n 0 rfl dX11_inn_73 ?_
      refine x_callVv (As := []) (rest := []) cal_X11_readLine ins_X11_readLine sel_X11_readLine ly260 (by decide) rfl (xX11_readLine x  _ _  h) rfl ml_X11_161 (xRoom (Nat.le_of_ble_eq_true rfl)) (Nat.le_of_ble_eq_true rfl) dX11_inn_74 (fun μ31 n32 h => ?_)
      have h := h n32
      refine x_sub [0] rfl ?_
      refine x_loop0 ([(0, .ref (x.2.2.1 + 260))]) h (fun J77 μ33 hJ77 h n34 => ?_)
      refine x_aload_n 0 rfl dX11_inn_77 ?_
      refine x_getI (j := 13) ly260 (by decide) rfl rfl (by decide) inT11 fl_X11_112 dX11_inn_78 (fun r35 => ?_)
      refine x_ifne (tgt := 104) r35  dX11_inn_81 (by decide) (fun k36 => ?_) (fun k36 => ?_)
      · have h := h.1 k36
        exact x_sub [0] rfl (xX11_inn_b104 x p1 μ33 Q  hp1 h)
      · have h := h.2 k36
        refine x_aload_n 0 rfl dX11_inn_84 ?_
        refine x_getI (j := 6) ly260 (by decide) rfl rfl (by decide) inT11 fl_X11_102 dX11_inn_85 (fun r82 => ?_)
        refine x_bipush dX11_inn_88 (by decide) ?_
        refine x_icmpne (tgt := 104) r82 ⟨by decide, by decide⟩ dX11_inn_90 (by decide) (fun k83 => ?_) (fun k83 => ?_)
        · have h := h.1 k83
          exact x_sub [0] rfl (xX11_inn_b104 x p1 μ33 Q  hp1 h)
        · have h := h.2 k83
          refine x_aload_n 0 rfl dX11_inn_93 ?_
          refine x_callVv (As := []) (rest := []) cal_X11_next ins_X11_next sel_X11_next ly260 (by decide) rfl (xX11_next x  _ _  h) rfl ml_X11_133 (xRoom (Nat.le_of_ble_eq_true rfl)) (Nat.le_of_ble_eq_true rfl) dX11_inn_94 (fun μ84 n85 h => ?_)
          have h := h n85
          refine x_aload_n 0 rfl dX11_inn_97 ?_
          refine x_callVv (As := []) (rest := []) cal_X11_readLine ins_X11_readLine sel_X11_readLine ly260 (by decide) rfl (xX11_readLine x  _ _  h) rfl ml_X11_161 (xRoom (Nat.le_of_ble_eq_true rfl)) (Nat.le_of_ble_eq_true rfl) dX11_inn_98 (fun μ86 n87 h => ?_)
          have h := h n87
          refine x_goto (tgt := 77) dX11_inn_101 (by decide) ?_
          exact x_sub [0] rfl (hJ77 _ h)
    · have h := h.2 k22
      refine x_aload_n 0 rfl dX11_inn_46 ?_
      refine x_getR (j := 16) (r := 264) ly260 (by decide) rfl rfl (by decide) inT11 fl_X11_23 dX11_inn_47 ?_
      refine x_iload_n 2 rfl dX11_inn_50 ?_
      refine x_iconst dX11_inn_51 ?_
      obtain ⟨c88, h⟩ := h
      refine x_iast ly264 c88.1 c88.2 (xIb (n := 322) c88 (by decide)) ⟨by decide, by decide⟩ (by decide) dX11_inn_52 (fun μ89 e91 n90 => ?_)
      have h := h μ89 e91 n90
      refine x_iinc 2 rfl [(2, iV (l2_18 + 1)), (0, .ref (x.2.2.1 + 260)), (1, iV p1)] dX11_inn_53 (show 2 < 3 by decide) rfl ?_
      refine x_goto (tgt := 39) dX11_inn_56 (by decide) ?_
      exact x_sub [1, 2, 0] rfl (hJ39 _ _ h)
  · have h := h.2 k8
    refine x_aload_n 0 rfl dX11_inn_16 ?_
    refine x_iconst dX11_inn_17 ?_
    refine x_callVi (As := [iV 2]) (rest := []) cal_X11_no ins_X11_no sel_X11_no ly260 (by decide) rfl (xX11_no x 2 _ _ ⟨by decide, by decide⟩ h) rfl ml_X11_158 (xRoom (Nat.le_of_ble_eq_true rfl)) (Nat.le_of_ble_eq_true rfl) dX11_inn_18 (fun r94 μ92 i95 n93 h => ?_)
    have h := h i95 n93
    exact x_iret h i95 rfl dX11_inn_21
set_option maxRecDepth 100000 in
set_option maxHeartbeats 4000000 in
theorem xX11_fault (x : xX)  (μ : xM) (Q : Int → xM → Prop)  (h : tX11_fault  μ Q) : xMet x 1 yX11_fault cX11_fault 1 (some .int) [.ref (x.2.2.1 + 260)] μ (xQi x Q) := by
  refine xMet_of (by decide +kernel) (Nat.le_of_ble_eq_true rfl) ?_
  show xW x (xRm 1, RX11, cX11_fault, 1, (some .int), fun _ _ => True) (xQi x Q) 0 [(0, .ref (x.2.2.1 + 260))] [] μ
  refine x_ran (fun n0 => ?_)
  have h := h n0 
  refine x_aload_n 0 rfl dX11_fault_0 ?_
  refine x_iconst dX11_fault_1 ?_
  refine x_putI (j := 0) ly260 (by decide) rfl rfl (by decide) inT11 fl_X11_74 tyX11 tyX11_ok nmX11 rfl ⟨by decide, by decide⟩ (by decide +kernel) dX11_fault_2 (fun μ1 e3 n2 => ?_)
  have h := h μ1 e3 n2
  refine x_aload_n 0 rfl dX11_fault_5 ?_
  refine x_getI (j := 9) ly260 (by decide) rfl rfl (by decide) inT11 fl_X11_116 dX11_fault_6 (fun r4 => ?_)
  exact x_iret h r4 rfl dX11_fault_9
set_option maxRecDepth 100000 in
set_option maxHeartbeats 4000000 in
theorem xX11_where (x : xX)  (μ : xM) (Q : Int → xM → Prop)  (h : tX11_where  μ Q) : xMet x 1 yX11_where cX11_where 1 (some .int) [.ref (x.2.2.1 + 260)] μ (xQi x Q) := by
  refine xMet_of (by decide +kernel) (Nat.le_of_ble_eq_true rfl) ?_
  show xW x (xRm 1, RX11, cX11_where, 1, (some .int), fun _ _ => True) (xQi x Q) 0 [(0, .ref (x.2.2.1 + 260))] [] μ
  refine x_ran (fun n0 => ?_)
  have h := h n0 
  refine x_aload_n 0 rfl dX11_where_0 ?_
  refine x_iconst dX11_where_1 ?_
  refine x_putI (j := 0) ly260 (by decide) rfl rfl (by decide) inT11 fl_X11_74 tyX11 tyX11_ok nmX11 rfl ⟨by decide, by decide⟩ (by decide +kernel) dX11_where_2 (fun μ1 e3 n2 => ?_)
  have h := h μ1 e3 n2
  refine x_aload_n 0 rfl dX11_where_5 ?_
  refine x_getI (j := 11) ly260 (by decide) rfl rfl (by decide) inT11 fl_X11_77 dX11_where_6 (fun r4 => ?_)
  refine x_iconst dX11_where_9 ?_
  refine x_icmpne (tgt := 20) r4 ⟨by decide, by decide⟩ dX11_where_10 (by decide) (fun k5 => ?_) (fun k5 => ?_)
  · have h := h.1 k5
    refine x_iconst dX11_where_20 ?_
    exact x_iret h ⟨by decide, by decide⟩ rfl dX11_where_21
  · have h := h.2 k5
    refine x_aload_n 0 rfl dX11_where_13 ?_
    refine x_getI (j := 10) ly260 (by decide) rfl rfl (by decide) inT11 fl_X11_13 dX11_where_14 (fun r6 => ?_)
    refine x_goto (tgt := 21) dX11_where_17 (by decide) ?_
    exact x_iret h r6 rfl dX11_where_21
set_option maxRecDepth 100000 in
set_option maxHeartbeats 4000000 in
theorem xX11_isWordThere (x : xX) (p1 : Int) (μ : xM) (Q : Int → xM → Prop) (hp1 : xIn p1) (h : tX11_isWordThere p1 μ Q) : xMet x 2 yX11_isWordThere cX11_isWordThere 2 (some .boolean) [.ref (x.2.2.1 + 260), iV p1] μ (xQz x Q) := by
  refine xMet_of (by decide +kernel) (Nat.le_of_ble_eq_true rfl) ?_
  show xW x (xRm 2, RX11, cX11_isWordThere, 2, (some .boolean), fun _ _ => True) (xQz x Q) 0 [(0, .ref (x.2.2.1 + 260)), (1, iV p1)] [] μ
  refine x_ran (fun n0 => ?_)
  have h := h n0 hp1
  refine x_aload_n 0 rfl dX11_isWordThere_0 ?_
  refine x_getI (j := 14) ly260 (by decide) rfl rfl (by decide) inT11 fl_X11_164 dX11_isWordThere_1 (fun r1 => ?_)
  refine x_ifeq (tgt := 27) r1  dX11_isWordThere_4 (by decide) (fun k2 => ?_) (fun k2 => ?_)
  · have h := h.1 k2
    refine x_iconst dX11_isWordThere_27 ?_
    exact x_zret h (Or.inl rfl) rfl dX11_isWordThere_28
  · have h := h.2 k2
    refine x_iload_n 1 rfl dX11_isWordThere_7 ?_
    refine x_iconst dX11_isWordThere_8 ?_
    refine x_aload_n 0 rfl dX11_isWordThere_9 ?_
    refine x_getR (j := 15) (r := 263) ly260 (by decide) rfl rfl (by decide) inT11 fl_X11_20 dX11_isWordThere_10 ?_
    refine x_iconst dX11_isWordThere_13 ?_
    refine x_iald ly263 (by decide) (by decide) ⟨by decide, by decide⟩ (by decide) dX11_isWordThere_14 (fun r3 => ?_)
    refine x_iconst dX11_isWordThere_15 ?_
    refine x_isub dX11_isWordThere_16 ?_
    obtain ⟨c4, h⟩ := h
    refine x_callSz (As := [iV p1, iV 0, iV ((μ 263 3) - 1)]) (rest := []) cal_X11_within sta_X11_within (xX11_within x p1 0 ((μ 263 3) - 1) _ _ hp1 ⟨by decide, by decide⟩ c4 h) rfl ml_X11_143 (xRoom (Nat.le_of_ble_eq_true rfl)) (Nat.le_of_ble_eq_true rfl) dX11_isWordThere_17 (fun r7 μ5 i8 n6 h => ?_)
    have h := h i8 n6
    refine x_ifeq (tgt := 27) (xIz i8)  dX11_isWordThere_20 (by decide) (fun k9 => ?_) (fun k9 => ?_)
    · have h := h.1 k9
      refine x_iconst dX11_isWordThere_27 ?_
      exact x_zret h (Or.inl rfl) rfl dX11_isWordThere_28
    · have h := h.2 (xz1 i8 k9)
      refine x_iconst dX11_isWordThere_23 ?_
      refine x_goto (tgt := 28) dX11_isWordThere_24 (by decide) ?_
      exact x_zret h (Or.inr rfl) rfl dX11_isWordThere_28
set_option maxRecDepth 100000 in
set_option maxHeartbeats 4000000 in
theorem xX11_isGuest (x : xX) (p1 : Int) (μ : xM) (Q : Int → xM → Prop) (hp1 : xIn p1) (h : tX11_isGuest p1 μ Q) : xMet x 2 yX11_isGuest cX11_isGuest 2 (some .boolean) [.ref (x.2.2.1 + 260), iV p1] μ (xQz x Q) := by
  refine xMet_of (by decide +kernel) (Nat.le_of_ble_eq_true rfl) ?_
  show xW x (xRm 2, RX11, cX11_isGuest, 2, (some .boolean), fun _ _ => True) (xQz x Q) 0 [(0, .ref (x.2.2.1 + 260)), (1, iV p1)] [] μ
  refine x_ran (fun n0 => ?_)
  have h := h n0 hp1
  refine x_aload_n 0 rfl dX11_isGuest_0 ?_
  refine x_getI (j := 14) ly260 (by decide) rfl rfl (by decide) inT11 fl_X11_164 dX11_isGuest_1 (fun r1 => ?_)
  refine x_ifeq (tgt := 27) r1  dX11_isGuest_4 (by decide) (fun k2 => ?_) (fun k2 => ?_)
  · have h := h.1 k2
    refine x_iconst dX11_isGuest_27 ?_
    exact x_zret h (Or.inl rfl) rfl dX11_isGuest_28
  · have h := h.2 k2
    refine x_iload_n 1 rfl dX11_isGuest_7 ?_
    refine x_iconst dX11_isGuest_8 ?_
    refine x_aload_n 0 rfl dX11_isGuest_9 ?_
    refine x_getR (j := 15) (r := 263) ly260 (by decide) rfl rfl (by decide) inT11 fl_X11_20 dX11_isGuest_10 ?_
    refine x_iconst dX11_isGuest_13 ?_
    refine x_iald ly263 (by decide) (by decide) ⟨by decide, by decide⟩ (by decide) dX11_isGuest_14 (fun r3 => ?_)
    refine x_iconst dX11_isGuest_15 ?_
    refine x_isub dX11_isGuest_16 ?_
    obtain ⟨c4, h⟩ := h
    refine x_callSz (As := [iV p1, iV 0, iV ((μ 263 4) - 1)]) (rest := []) cal_X11_within sta_X11_within (xX11_within x p1 0 ((μ 263 4) - 1) _ _ hp1 ⟨by decide, by decide⟩ c4 h) rfl ml_X11_143 (xRoom (Nat.le_of_ble_eq_true rfl)) (Nat.le_of_ble_eq_true rfl) dX11_isGuest_17 (fun r7 μ5 i8 n6 h => ?_)
    have h := h i8 n6
    refine x_ifeq (tgt := 27) (xIz i8)  dX11_isGuest_20 (by decide) (fun k9 => ?_) (fun k9 => ?_)
    · have h := h.1 k9
      refine x_iconst dX11_isGuest_27 ?_
      exact x_zret h (Or.inl rfl) rfl dX11_isGuest_28
    · have h := h.2 (xz1 i8 k9)
      refine x_iconst dX11_isGuest_23 ?_
      refine x_goto (tgt := 28) dX11_isGuest_24 (by decide) ?_
      exact x_zret h (Or.inr rfl) rfl dX11_isGuest_28
set_option maxRecDepth 100000 in
set_option maxHeartbeats 4000000 in
theorem xX11_isTable (x : xX) (p1 : Int) (μ : xM) (Q : Int → xM → Prop) (hp1 : xIn p1) (h : tX11_isTable p1 μ Q) : xMet x 2 yX11_isTable cX11_isTable 2 (some .boolean) [.ref (x.2.2.1 + 260), iV p1] μ (xQz x Q) := by
  refine xMet_of (by decide +kernel) (Nat.le_of_ble_eq_true rfl) ?_
  show xW x (xRm 2, RX11, cX11_isTable, 2, (some .boolean), fun _ _ => True) (xQz x Q) 0 [(0, .ref (x.2.2.1 + 260)), (1, iV p1)] [] μ
  refine x_ran (fun n0 => ?_)
  have h := h n0 hp1
  refine x_aload_n 0 rfl dX11_isTable_0 ?_
  refine x_getI (j := 14) ly260 (by decide) rfl rfl (by decide) inT11 fl_X11_164 dX11_isTable_1 (fun r1 => ?_)
  refine x_ifeq (tgt := 27) r1  dX11_isTable_4 (by decide) (fun k2 => ?_) (fun k2 => ?_)
  · have h := h.1 k2
    refine x_iconst dX11_isTable_27 ?_
    exact x_zret h (Or.inl rfl) rfl dX11_isTable_28
  · have h := h.2 k2
    refine x_iload_n 1 rfl dX11_isTable_7 ?_
    refine x_iconst dX11_isTable_8 ?_
    refine x_aload_n 0 rfl dX11_isTable_9 ?_
    refine x_getR (j := 15) (r := 263) ly260 (by decide) rfl rfl (by decide) inT11 fl_X11_20 dX11_isTable_10 ?_
    refine x_iconst dX11_isTable_13 ?_
    refine x_iald ly263 (by decide) (by decide) ⟨by decide, by decide⟩ (by decide) dX11_isTable_14 (fun r3 => ?_)
    refine x_iconst dX11_isTable_15 ?_
    refine x_isub dX11_isTable_16 ?_
    obtain ⟨c4, h⟩ := h
    refine x_callSz (As := [iV p1, iV 0, iV ((μ 263 0) - 1)]) (rest := []) cal_X11_within sta_X11_within (xX11_within x p1 0 ((μ 263 0) - 1) _ _ hp1 ⟨by decide, by decide⟩ c4 h) rfl ml_X11_143 (xRoom (Nat.le_of_ble_eq_true rfl)) (Nat.le_of_ble_eq_true rfl) dX11_isTable_17 (fun r7 μ5 i8 n6 h => ?_)
    have h := h i8 n6
    refine x_ifeq (tgt := 27) (xIz i8)  dX11_isTable_20 (by decide) (fun k9 => ?_) (fun k9 => ?_)
    · have h := h.1 k9
      refine x_iconst dX11_isTable_27 ?_
      exact x_zret h (Or.inl rfl) rfl dX11_isTable_28
    · have h := h.2 (xz1 i8 k9)
      refine x_iconst dX11_isTable_23 ?_
      refine x_goto (tgt := 28) dX11_isTable_24 (by decide) ?_
      exact x_zret h (Or.inr rfl) rfl dX11_isTable_28
set_option maxRecDepth 100000 in
set_option maxHeartbeats 4000000 in
theorem xX11_word (x : xX) (p1 : Int) (p2 : Int) (μ : xM) (Q : Int → xM → Prop) (hp1 : xIn p1) (hp2 : xIn p2) (h : tX11_word p1 p2 μ Q) : xMet x 3 yX11_word cX11_word 3 (some .int) [.ref (x.2.2.1 + 260), iV p1, iV p2] μ (xQi x Q) := by
  refine xMet_of (by decide +kernel) (Nat.le_of_ble_eq_true rfl) ?_
  show xW x (xRm 3, RX11, cX11_word, 3, (some .int), fun _ _ => True) (xQi x Q) 0 [(0, .ref (x.2.2.1 + 260)), (1, iV p1), (2, iV p2)] [] μ
  refine x_ran (fun n0 => ?_)
  have h := h n0 hp1 hp2
  refine x_aload_n 0 rfl dX11_word_0 ?_
  refine x_callVv (As := []) (rest := []) cal_X11_good ins_X11_good sel_X11_good ly260 (by decide) rfl (xX11_good x  _ _  h) rfl ml_X11_155 (xRoom (Nat.le_of_ble_eq_true rfl)) (Nat.le_of_ble_eq_true rfl) dX11_word_1 (fun μ1 n2 h => ?_)
  have h := h n2
  refine x_aload_n 0 rfl dX11_word_4 ?_
  refine x_iload_n 1 rfl dX11_word_5 ?_
  refine x_callVz (As := [iV p1]) (rest := []) cal_X11_isWordThere ins_X11_isWordThere sel_X11_isWordThere ly260 (by decide) rfl (xX11_isWordThere x p1 _ _ hp1 h) rfl ml_X11_249 (xRoom (Nat.le_of_ble_eq_true rfl)) (Nat.le_of_ble_eq_true rfl) dX11_word_6 (fun r5 μ3 i6 n4 h => ?_)
  have h := h i6 n4
  refine x_ifne (tgt := 18) (xIz i6)  dX11_word_9 (by decide) (fun k7 => ?_) (fun k7 => ?_)
  · have h := h.1 (xz1 i6 k7)
    refine x_iload_n 2 rfl dX11_word_18 ?_
    by_cases k10 : p2 = 0
    · refine x_tabIn (tgt := 48) 0 hp2 (by omega) (by decide) rfl (by decide) dX11_word_19 ?_
      have h := h.1 k10
      refine x_aload_n 0 rfl dX11_word_48 ?_
      refine x_getR (j := 15) (r := 263) ly260 (by decide) rfl rfl (by decide) inT11 fl_X11_20 dX11_word_49 ?_
      refine x_bipush dX11_word_52 (by decide) ?_
      refine x_iload_n 1 rfl dX11_word_54 ?_
      refine x_iadd dX11_word_55 ?_
      obtain ⟨c8, h⟩ := h
      refine x_iald ly263 c8.1 c8.2 (xIb (n := 322) c8 (by decide)) (by decide) dX11_word_56 (fun r9 => ?_)
      exact x_iret h r9 rfl dX11_word_57
    by_cases k13 : p2 = 1
    · refine x_tabIn (tgt := 58) 1 hp2 (by omega) (by decide) rfl (by decide) dX11_word_19 ?_
      have h := h.2.1 k13
      refine x_aload_n 0 rfl dX11_word_58 ?_
      refine x_getR (j := 15) (r := 263) ly260 (by decide) rfl rfl (by decide) inT11 fl_X11_20 dX11_word_59 ?_
      refine x_sipush dX11_word_62 (by decide) ?_
      refine x_iload_n 1 rfl dX11_word_65 ?_
      refine x_iadd dX11_word_66 ?_
      obtain ⟨c11, h⟩ := h
      refine x_iald ly263 c11.1 c11.2 (xIb (n := 322) c11 (by decide)) (by decide) dX11_word_67 (fun r12 => ?_)
      exact x_iret h r12 rfl dX11_word_68
    by_cases k16 : p2 = 2
    · refine x_tabIn (tgt := 69) 2 hp2 (by omega) (by decide) rfl (by decide) dX11_word_19 ?_
      have h := h.2.2.1 k16
      refine x_aload_n 0 rfl dX11_word_69 ?_
      refine x_getR (j := 15) (r := 263) ly260 (by decide) rfl rfl (by decide) inT11 fl_X11_20 dX11_word_70 ?_
      refine x_sipush dX11_word_73 (by decide) ?_
      refine x_iload_n 1 rfl dX11_word_76 ?_
      refine x_iadd dX11_word_77 ?_
      obtain ⟨c14, h⟩ := h
      refine x_iald ly263 c14.1 c14.2 (xIb (n := 322) c14 (by decide)) (by decide) dX11_word_78 (fun r15 => ?_)
      exact x_iret h r15 rfl dX11_word_79
    by_cases k22 : p2 = 3
    · refine x_tabIn (tgt := 80) 3 hp2 (by omega) (by decide) rfl (by decide) dX11_word_19 ?_
      have h := h.2.2.2.1 k22
      refine x_aload_n 0 rfl dX11_word_80 ?_
      refine x_iload_n 1 rfl dX11_word_81 ?_
      refine x_callVz (As := [iV p1]) (rest := []) cal_X11_isGood ins_X11_isGood sel_X11_isGood ly260 (by decide) rfl (xX11_isGood x p1 _ _ hp1 h) rfl ml_X11_240 (xRoom (Nat.le_of_ble_eq_true rfl)) (Nat.le_of_ble_eq_true rfl) dX11_word_82 (fun r19 μ17 i20 n18 h => ?_)
      have h := h i20 n18
      refine x_ifeq (tgt := 92) (xIz i20)  dX11_word_85 (by decide) (fun k21 => ?_) (fun k21 => ?_)
      · have h := h.1 k21
        refine x_iconst dX11_word_92 ?_
        exact x_iret h ⟨by decide, by decide⟩ rfl dX11_word_93
      · have h := h.2 (xz1 i20 k21)
        refine x_iconst dX11_word_88 ?_
        refine x_goto (tgt := 93) dX11_word_89 (by decide) ?_
        exact x_iret h ⟨by decide, by decide⟩ rfl dX11_word_93
    have k27 : p2 < 0 ∨ 3 < p2 := by omega
    refine x_tabOut (tgt := 94) hp2 k27 (by decide) dX11_word_19 ?_
    have h := h.2.2.2.2 k27
    refine x_aload_n 0 rfl dX11_word_94 ?_
    refine x_iconst dX11_word_95 ?_
    refine x_callVi (As := [iV 1]) (rest := []) cal_X11_no ins_X11_no sel_X11_no ly260 (by decide) rfl (xX11_no x 1 _ _ ⟨by decide, by decide⟩ h) rfl ml_X11_158 (xRoom (Nat.le_of_ble_eq_true rfl)) (Nat.le_of_ble_eq_true rfl) dX11_word_96 (fun r25 μ23 i26 n24 h => ?_)
    have h := h i26 n24
    exact x_iret h i26 rfl dX11_word_99
  · have h := h.2 k7
    refine x_aload_n 0 rfl dX11_word_12 ?_
    refine x_iconst dX11_word_13 ?_
    refine x_callVi (As := [iV 1]) (rest := []) cal_X11_no ins_X11_no sel_X11_no ly260 (by decide) rfl (xX11_no x 1 _ _ ⟨by decide, by decide⟩ h) rfl ml_X11_158 (xRoom (Nat.le_of_ble_eq_true rfl)) (Nat.le_of_ble_eq_true rfl) dX11_word_14 (fun r30 μ28 i31 n29 h => ?_)
    have h := h i31 n29
    exact x_iret h i31 rfl dX11_word_17
set_option maxRecDepth 100000 in
set_option maxHeartbeats 4000000 in
theorem xX11_letter (x : xX) (p1 : Int) (p2 : Int) (μ : xM) (Q : Int → xM → Prop) (hp1 : xIn p1) (hp2 : xIn p2) (h : tX11_letter p1 p2 μ Q) : xMet x 3 yX11_letter cX11_letter 3 (some .int) [.ref (x.2.2.1 + 260), iV p1, iV p2] μ (xQi x Q) := by
  refine xMet_of (by decide +kernel) (Nat.le_of_ble_eq_true rfl) ?_
  show xW x (xRm 3, RX11, cX11_letter, 3, (some .int), fun _ _ => True) (xQi x Q) 0 [(0, .ref (x.2.2.1 + 260)), (1, iV p1), (2, iV p2)] [] μ
  refine x_ran (fun n0 => ?_)
  have h := h n0 hp1 hp2
  refine x_aload_n 0 rfl dX11_letter_0 ?_
  refine x_callVv (As := []) (rest := []) cal_X11_good ins_X11_good sel_X11_good ly260 (by decide) rfl (xX11_good x  _ _  h) rfl ml_X11_155 (xRoom (Nat.le_of_ble_eq_true rfl)) (Nat.le_of_ble_eq_true rfl) dX11_letter_1 (fun μ1 n2 h => ?_)
  have h := h n2
  refine x_aload_n 0 rfl dX11_letter_4 ?_
  refine x_iload_n 1 rfl dX11_letter_5 ?_
  refine x_callVz (As := [iV p1]) (rest := []) cal_X11_isWordThere ins_X11_isWordThere sel_X11_isWordThere ly260 (by decide) rfl (xX11_isWordThere x p1 _ _ hp1 h) rfl ml_X11_249 (xRoom (Nat.le_of_ble_eq_true rfl)) (Nat.le_of_ble_eq_true rfl) dX11_letter_6 (fun r5 μ3 i6 n4 h => ?_)
  have h := h i6 n4
  refine x_ifeq (tgt := 40) (xIz i6)  dX11_letter_9 (by decide) (fun k7 => ?_) (fun k7 => ?_)
  · have h := h.1 k7
    refine x_aload_n 0 rfl dX11_letter_40 ?_
    refine x_iconst dX11_letter_41 ?_
    refine x_callVi (As := [iV 1]) (rest := []) cal_X11_no ins_X11_no sel_X11_no ly260 (by decide) rfl (xX11_no x 1 _ _ ⟨by decide, by decide⟩ h) rfl ml_X11_158 (xRoom (Nat.le_of_ble_eq_true rfl)) (Nat.le_of_ble_eq_true rfl) dX11_letter_42 (fun r10 μ8 i11 n9 h => ?_)
    have h := h i11 n9
    exact x_iret h i11 rfl dX11_letter_45
  · have h := h.2 (xz1 i6 k7)
    refine x_iload_n 2 rfl dX11_letter_12 ?_
    refine x_iconst dX11_letter_13 ?_
    refine x_aload_n 0 rfl dX11_letter_14 ?_
    refine x_getR (j := 15) (r := 263) ly260 (by decide) rfl rfl (by decide) inT11 fl_X11_20 dX11_letter_15 ?_
    refine x_bipush dX11_letter_18 (by decide) ?_
    refine x_iload_n 1 rfl dX11_letter_20 ?_
    refine x_iadd dX11_letter_21 ?_
    obtain ⟨c12, h⟩ := h
    refine x_iald ly263 c12.1 c12.2 (xIb (n := 322) c12 (by decide)) (by decide) dX11_letter_22 (fun r13 => ?_)
    refine x_iconst dX11_letter_23 ?_
    refine x_isub dX11_letter_24 ?_
    obtain ⟨c14, h⟩ := h
    refine x_callSz (As := [iV p2, iV 0, iV ((μ3 263 ((7 + p1).toNat)) - 1)]) (rest := []) cal_X11_within sta_X11_within (xX11_within x p2 0 ((μ3 263 ((7 + p1).toNat)) - 1) _ _ hp2 ⟨by decide, by decide⟩ c14 h) rfl ml_X11_143 (xRoom (Nat.le_of_ble_eq_true rfl)) (Nat.le_of_ble_eq_true rfl) dX11_letter_25 (fun r17 μ15 i18 n16 h => ?_)
    have h := h i18 n16
    refine x_ifeq (tgt := 40) (xIz i18)  dX11_letter_28 (by decide) (fun k19 => ?_) (fun k19 => ?_)
    · have h := h.1 k19
      refine x_aload_n 0 rfl dX11_letter_40 ?_
      refine x_iconst dX11_letter_41 ?_
      refine x_callVi (As := [iV 1]) (rest := []) cal_X11_no ins_X11_no sel_X11_no ly260 (by decide) rfl (xX11_no x 1 _ _ ⟨by decide, by decide⟩ h) rfl ml_X11_158 (xRoom (Nat.le_of_ble_eq_true rfl)) (Nat.le_of_ble_eq_true rfl) dX11_letter_42 (fun r22 μ20 i23 n21 h => ?_)
      have h := h i23 n21
      exact x_iret h i23 rfl dX11_letter_45
    · have h := h.2 (xz1 i18 k19)
      refine x_aload_n 0 rfl dX11_letter_31 ?_
      refine x_iload_n 1 rfl dX11_letter_32 ?_
      refine x_iload_n 2 rfl dX11_letter_33 ?_
      refine x_callVi (As := [iV p1, iV p2]) (rest := []) cal_X11_letterAt ins_X11_letterAt sel_X11_letterAt ly260 (by decide) rfl (xX11_letterAt x p1 p2 _ _ hp1 hp2 h) rfl ml_X11_243 (xRoom (Nat.le_of_ble_eq_true rfl)) (Nat.le_of_ble_eq_true rfl) dX11_letter_34 (fun r26 μ24 i27 n25 h => ?_)
      have h := h i27 n25
      refine x_goto (tgt := 45) dX11_letter_37 (by decide) ?_
      exact x_iret h i27 rfl dX11_letter_45
set_option maxRecDepth 100000 in
set_option maxHeartbeats 4000000 in
theorem xX11_grows (x : xX) (p1 : Int) (p2 : Int) (μ : xM) (Q : Int → xM → Prop) (hp1 : xIn p1) (hp2 : xIn p2) (h : tX11_grows p1 p2 μ Q) : xMet x 3 yX11_grows cX11_grows 4 (some .int) [.ref (x.2.2.1 + 260), iV p1, iV p2] μ (xQi x Q) := by
  refine xMet_of (by decide +kernel) (Nat.le_of_ble_eq_true rfl) ?_
  show xW x (xRm 3, RX11, cX11_grows, 4, (some .int), fun _ _ => True) (xQi x Q) 0 [(0, .ref (x.2.2.1 + 260)), (1, iV p1), (2, iV p2)] [] μ
  refine x_ran (fun n0 => ?_)
  have h := h n0 hp1 hp2
  refine x_aload_n 0 rfl dX11_grows_0 ?_
  refine x_callVv (As := []) (rest := []) cal_X11_good ins_X11_good sel_X11_good ly260 (by decide) rfl (xX11_good x  _ _  h) rfl ml_X11_155 (xRoom (Nat.le_of_ble_eq_true rfl)) (Nat.le_of_ble_eq_true rfl) dX11_grows_1 (fun μ1 n2 h => ?_)
  have h := h n2
  refine x_aload_n 0 rfl dX11_grows_4 ?_
  refine x_iload_n 1 rfl dX11_grows_5 ?_
  refine x_callVz (As := [iV p1]) (rest := []) cal_X11_isWordThere ins_X11_isWordThere sel_X11_isWordThere ly260 (by decide) rfl (xX11_isWordThere x p1 _ _ hp1 h) rfl ml_X11_249 (xRoom (Nat.le_of_ble_eq_true rfl)) (Nat.le_of_ble_eq_true rfl) dX11_grows_6 (fun r5 μ3 i6 n4 h => ?_)
  have h := h i6 n4
  refine x_ifeq (tgt := 20) (xIz i6)  dX11_grows_9 (by decide) (fun k7 => ?_) (fun k7 => ?_)
  · have h := h.1 k7
    refine x_aload_n 0 rfl dX11_grows_20 ?_
    refine x_iconst dX11_grows_21 ?_
    refine x_callVi (As := [iV 1]) (rest := []) cal_X11_no ins_X11_no sel_X11_no ly260 (by decide) rfl (xX11_no x 1 _ _ ⟨by decide, by decide⟩ h) rfl ml_X11_158 (xRoom (Nat.le_of_ble_eq_true rfl)) (Nat.le_of_ble_eq_true rfl) dX11_grows_22 (fun r10 μ8 i11 n9 h => ?_)
    have h := h i11 n9
    exact x_iret h i11 rfl dX11_grows_25
  · have h := h.2 (xz1 i6 k7)
    refine x_aload_n 0 rfl dX11_grows_12 ?_
    refine x_iload_n 2 rfl dX11_grows_13 ?_
    refine x_callVz (As := [iV p2]) (rest := []) cal_X11_isWordThere ins_X11_isWordThere sel_X11_isWordThere ly260 (by decide) rfl (xX11_isWordThere x p2 _ _ hp2 h) rfl ml_X11_249 (xRoom (Nat.le_of_ble_eq_true rfl)) (Nat.le_of_ble_eq_true rfl) dX11_grows_14 (fun r14 μ12 i15 n13 h => ?_)
    have h := h i15 n13
    refine x_ifne (tgt := 26) (xIz i15)  dX11_grows_17 (by decide) (fun k16 => ?_) (fun k16 => ?_)
    · have h := h.1 (xz1 i15 k16)
      refine x_aload_n 0 rfl dX11_grows_26 ?_
      refine x_iload_n 1 rfl dX11_grows_27 ?_
      refine x_callVz (As := [iV p1]) (rest := []) cal_X11_isGood ins_X11_isGood sel_X11_isGood ly260 (by decide) rfl (xX11_isGood x p1 _ _ hp1 h) rfl ml_X11_240 (xRoom (Nat.le_of_ble_eq_true rfl)) (Nat.le_of_ble_eq_true rfl) dX11_grows_28 (fun r19 μ17 i20 n18 h => ?_)
      have h := h i20 n18
      refine x_ifeq (tgt := 42) (xIz i20)  dX11_grows_31 (by decide) (fun k21 => ?_) (fun k21 => ?_)
      · have h := h.1 k21
        refine x_aload_n 0 rfl dX11_grows_42 ?_
        refine x_iconst dX11_grows_43 ?_
        refine x_callVi (As := [iV 5]) (rest := []) cal_X11_no ins_X11_no sel_X11_no ly260 (by decide) rfl (xX11_no x 5 _ _ ⟨by decide, by decide⟩ h) rfl ml_X11_158 (xRoom (Nat.le_of_ble_eq_true rfl)) (Nat.le_of_ble_eq_true rfl) dX11_grows_44 (fun r24 μ22 i25 n23 h => ?_)
        have h := h i25 n23
        exact x_iret h i25 rfl dX11_grows_47
      · have h := h.2 (xz1 i20 k21)
        refine x_aload_n 0 rfl dX11_grows_34 ?_
        refine x_iload_n 2 rfl dX11_grows_35 ?_
        refine x_callVz (As := [iV p2]) (rest := []) cal_X11_isGood ins_X11_isGood sel_X11_isGood ly260 (by decide) rfl (xX11_isGood x p2 _ _ hp2 h) rfl ml_X11_240 (xRoom (Nat.le_of_ble_eq_true rfl)) (Nat.le_of_ble_eq_true rfl) dX11_grows_36 (fun r28 μ26 i29 n27 h => ?_)
        have h := h i29 n27
        refine x_ifne (tgt := 48) (xIz i29)  dX11_grows_39 (by decide) (fun k30 => ?_) (fun k30 => ?_)
        · have h := h.1 (xz1 i29 k30)
          refine x_aload_n 0 rfl dX11_grows_48 ?_
          refine x_getR (j := 20) (r := 267) ly260 (by decide) rfl rfl (by decide) inT11 fl_X11_32 dX11_grows_49 ?_
          refine x_bipush dX11_grows_52 (by decide) ?_
          refine x_iload_n 1 rfl dX11_grows_54 ?_
          refine x_imul dX11_grows_55 ?_
          refine x_iload_n 2 rfl dX11_grows_56 ?_
          refine x_iadd dX11_grows_57 ?_
          obtain ⟨c31, h⟩ := h
          refine x_iald ly267 c31.1 c31.2 (xIb (n := 600) c31 (by decide)) (by decide) dX11_grows_58 (fun r32 => ?_)
          refine x_istore_n [(3, iV (μ26 267 (((24 * p1) + p2).toNat))), (0, .ref (x.2.2.1 + 260)), (1, iV p1), (2, iV p2)] dX11_grows_59 (show 3 < 4 by decide) rfl ?_
          refine x_iload_n 0 rfl dX11_grows_60 ?_
          refine x_ifge (tgt := 69) r32  dX11_grows_61 (by decide) (fun k33 => ?_) (fun k33 => ?_)
          · have h := h.1 k33
            refine x_iload_n 0 rfl dX11_grows_69 ?_
            exact x_iret h r32 rfl dX11_grows_70
          · have h := h.2 k33
            refine x_bipush dX11_grows_64 (by decide) ?_
            refine x_goto (tgt := 70) dX11_grows_66 (by decide) ?_
            exact x_iret h ⟨by decide, by decide⟩ rfl dX11_grows_70
        · have h := h.2 k30
          refine x_aload_n 0 rfl dX11_grows_42 ?_
          refine x_iconst dX11_grows_43 ?_
          refine x_callVi (As := [iV 5]) (rest := []) cal_X11_no ins_X11_no sel_X11_no ly260 (by decide) rfl (xX11_no x 5 _ _ ⟨by decide, by decide⟩ h) rfl ml_X11_158 (xRoom (Nat.le_of_ble_eq_true rfl)) (Nat.le_of_ble_eq_true rfl) dX11_grows_44 (fun r36 μ34 i37 n35 h => ?_)
          have h := h i37 n35
          exact x_iret h i37 rfl dX11_grows_47
    · have h := h.2 k16
      refine x_aload_n 0 rfl dX11_grows_20 ?_
      refine x_iconst dX11_grows_21 ?_
      refine x_callVi (As := [iV 1]) (rest := []) cal_X11_no ins_X11_no sel_X11_no ly260 (by decide) rfl (xX11_no x 1 _ _ ⟨by decide, by decide⟩ h) rfl ml_X11_158 (xRoom (Nat.le_of_ble_eq_true rfl)) (Nat.le_of_ble_eq_true rfl) dX11_grows_22 (fun r40 μ38 i41 n39 h => ?_)
      have h := h i41 n39
      exact x_iret h i41 rfl dX11_grows_25
set_option maxRecDepth 100000 in
set_option maxHeartbeats 4000000 in
theorem xX11_chain (x : xX) (p1 : Int) (μ : xM) (Q : Int → xM → Prop) (hp1 : xIn p1) (h : tX11_chain p1 μ Q) : xMet x 3 yX11_chain cX11_chain 2 (some .int) [.ref (x.2.2.1 + 260), iV p1] μ (xQi x Q) := by
  refine xMet_of (by decide +kernel) (Nat.le_of_ble_eq_true rfl) ?_
  show xW x (xRm 3, RX11, cX11_chain, 2, (some .int), fun _ _ => True) (xQi x Q) 0 [(0, .ref (x.2.2.1 + 260)), (1, iV p1)] [] μ
  refine x_ran (fun n0 => ?_)
  have h := h n0 hp1
  refine x_aload_n 0 rfl dX11_chain_0 ?_
  refine x_callVv (As := []) (rest := []) cal_X11_good ins_X11_good sel_X11_good ly260 (by decide) rfl (xX11_good x  _ _  h) rfl ml_X11_155 (xRoom (Nat.le_of_ble_eq_true rfl)) (Nat.le_of_ble_eq_true rfl) dX11_chain_1 (fun μ1 n2 h => ?_)
  have h := h n2
  refine x_aload_n 0 rfl dX11_chain_4 ?_
  refine x_iload_n 1 rfl dX11_chain_5 ?_
  refine x_callVz (As := [iV p1]) (rest := []) cal_X11_isWordThere ins_X11_isWordThere sel_X11_isWordThere ly260 (by decide) rfl (xX11_isWordThere x p1 _ _ hp1 h) rfl ml_X11_249 (xRoom (Nat.le_of_ble_eq_true rfl)) (Nat.le_of_ble_eq_true rfl) dX11_chain_6 (fun r5 μ3 i6 n4 h => ?_)
  have h := h i6 n4
  refine x_ifne (tgt := 18) (xIz i6)  dX11_chain_9 (by decide) (fun k7 => ?_) (fun k7 => ?_)
  · have h := h.1 (xz1 i6 k7)
    refine x_aload_n 0 rfl dX11_chain_18 ?_
    refine x_iload_n 1 rfl dX11_chain_19 ?_
    refine x_callVz (As := [iV p1]) (rest := []) cal_X11_isGood ins_X11_isGood sel_X11_isGood ly260 (by decide) rfl (xX11_isGood x p1 _ _ hp1 h) rfl ml_X11_240 (xRoom (Nat.le_of_ble_eq_true rfl)) (Nat.le_of_ble_eq_true rfl) dX11_chain_20 (fun r10 μ8 i11 n9 h => ?_)
    have h := h i11 n9
    refine x_ifeq (tgt := 35) (xIz i11)  dX11_chain_23 (by decide) (fun k12 => ?_) (fun k12 => ?_)
    · have h := h.1 k12
      refine x_aload_n 0 rfl dX11_chain_35 ?_
      refine x_iconst dX11_chain_36 ?_
      refine x_callVi (As := [iV 5]) (rest := []) cal_X11_no ins_X11_no sel_X11_no ly260 (by decide) rfl (xX11_no x 5 _ _ ⟨by decide, by decide⟩ h) rfl ml_X11_158 (xRoom (Nat.le_of_ble_eq_true rfl)) (Nat.le_of_ble_eq_true rfl) dX11_chain_37 (fun r15 μ13 i16 n14 h => ?_)
      have h := h i16 n14
      exact x_iret h i16 rfl dX11_chain_40
    · have h := h.2 (xz1 i11 k12)
      refine x_aload_n 0 rfl dX11_chain_26 ?_
      refine x_getR (j := 21) (r := 268) ly260 (by decide) rfl rfl (by decide) inT11 fl_X11_35 dX11_chain_27 ?_
      refine x_iload_n 1 rfl dX11_chain_30 ?_
      obtain ⟨c17, h⟩ := h
      refine x_iald ly268 c17.1 c17.2 hp1 (by decide) dX11_chain_31 (fun r18 => ?_)
      refine x_goto (tgt := 40) dX11_chain_32 (by decide) ?_
      exact x_iret h r18 rfl dX11_chain_40
  · have h := h.2 k7
    refine x_aload_n 0 rfl dX11_chain_12 ?_
    refine x_iconst dX11_chain_13 ?_
    refine x_callVi (As := [iV 1]) (rest := []) cal_X11_no ins_X11_no sel_X11_no ly260 (by decide) rfl (xX11_no x 1 _ _ ⟨by decide, by decide⟩ h) rfl ml_X11_158 (xRoom (Nat.le_of_ble_eq_true rfl)) (Nat.le_of_ble_eq_true rfl) dX11_chain_14 (fun r21 μ19 i22 n20 h => ?_)
    have h := h i22 n20
    exact x_iret h i22 rfl dX11_chain_17
set_option maxRecDepth 100000 in
set_option maxHeartbeats 4000000 in
theorem xX11_rises (x : xX) (p1 : Int) (μ : xM) (Q : Int → xM → Prop) (hp1 : xIn p1) (h : tX11_rises p1 μ Q) : xMet x 3 yX11_rises cX11_rises 2 (some .int) [.ref (x.2.2.1 + 260), iV p1] μ (xQi x Q) := by
  refine xMet_of (by decide +kernel) (Nat.le_of_ble_eq_true rfl) ?_
  show xW x (xRm 3, RX11, cX11_rises, 2, (some .int), fun _ _ => True) (xQi x Q) 0 [(0, .ref (x.2.2.1 + 260)), (1, iV p1)] [] μ
  refine x_ran (fun n0 => ?_)
  have h := h n0 hp1
  refine x_aload_n 0 rfl dX11_rises_0 ?_
  refine x_callVv (As := []) (rest := []) cal_X11_good ins_X11_good sel_X11_good ly260 (by decide) rfl (xX11_good x  _ _  h) rfl ml_X11_155 (xRoom (Nat.le_of_ble_eq_true rfl)) (Nat.le_of_ble_eq_true rfl) dX11_rises_1 (fun μ1 n2 h => ?_)
  have h := h n2
  refine x_aload_n 0 rfl dX11_rises_4 ?_
  refine x_iload_n 1 rfl dX11_rises_5 ?_
  refine x_callVz (As := [iV p1]) (rest := []) cal_X11_isWordThere ins_X11_isWordThere sel_X11_isWordThere ly260 (by decide) rfl (xX11_isWordThere x p1 _ _ hp1 h) rfl ml_X11_249 (xRoom (Nat.le_of_ble_eq_true rfl)) (Nat.le_of_ble_eq_true rfl) dX11_rises_6 (fun r5 μ3 i6 n4 h => ?_)
  have h := h i6 n4
  refine x_ifne (tgt := 18) (xIz i6)  dX11_rises_9 (by decide) (fun k7 => ?_) (fun k7 => ?_)
  · have h := h.1 (xz1 i6 k7)
    refine x_aload_n 0 rfl dX11_rises_18 ?_
    refine x_iload_n 1 rfl dX11_rises_19 ?_
    refine x_callVz (As := [iV p1]) (rest := []) cal_X11_isGood ins_X11_isGood sel_X11_isGood ly260 (by decide) rfl (xX11_isGood x p1 _ _ hp1 h) rfl ml_X11_240 (xRoom (Nat.le_of_ble_eq_true rfl)) (Nat.le_of_ble_eq_true rfl) dX11_rises_20 (fun r10 μ8 i11 n9 h => ?_)
    have h := h i11 n9
    refine x_ifeq (tgt := 35) (xIz i11)  dX11_rises_23 (by decide) (fun k12 => ?_) (fun k12 => ?_)
    · have h := h.1 k12
      refine x_aload_n 0 rfl dX11_rises_35 ?_
      refine x_iconst dX11_rises_36 ?_
      refine x_callVi (As := [iV 5]) (rest := []) cal_X11_no ins_X11_no sel_X11_no ly260 (by decide) rfl (xX11_no x 5 _ _ ⟨by decide, by decide⟩ h) rfl ml_X11_158 (xRoom (Nat.le_of_ble_eq_true rfl)) (Nat.le_of_ble_eq_true rfl) dX11_rises_37 (fun r15 μ13 i16 n14 h => ?_)
      have h := h i16 n14
      exact x_iret h i16 rfl dX11_rises_40
    · have h := h.2 (xz1 i11 k12)
      refine x_aload_n 0 rfl dX11_rises_26 ?_
      refine x_getR (j := 23) (r := 270) ly260 (by decide) rfl rfl (by decide) inT11 fl_X11_41 dX11_rises_27 ?_
      refine x_iload_n 1 rfl dX11_rises_30 ?_
      obtain ⟨c17, h⟩ := h
      refine x_iald ly270 c17.1 c17.2 hp1 (by decide) dX11_rises_31 (fun r18 => ?_)
      refine x_goto (tgt := 40) dX11_rises_32 (by decide) ?_
      exact x_iret h r18 rfl dX11_rises_40
  · have h := h.2 k7
    refine x_aload_n 0 rfl dX11_rises_12 ?_
    refine x_iconst dX11_rises_13 ?_
    refine x_callVi (As := [iV 1]) (rest := []) cal_X11_no ins_X11_no sel_X11_no ly260 (by decide) rfl (xX11_no x 1 _ _ ⟨by decide, by decide⟩ h) rfl ml_X11_158 (xRoom (Nat.le_of_ble_eq_true rfl)) (Nat.le_of_ble_eq_true rfl) dX11_rises_14 (fun r21 μ19 i22 n20 h => ?_)
    have h := h i22 n20
    exact x_iret h i22 rfl dX11_rises_17
set_option maxRecDepth 100000 in
set_option maxHeartbeats 4000000 in
theorem xX11_grundy_b30 (x : xX) (p1 : Int)  (μ : xM) (Q : Int → xM → Prop)  (hp1 : xIn p1)  (h : tX11_grundy_b30 p1  μ Q ) : xW x (xRm 3, RX11, cX11_grundy, 2, (some .int), fun _ _ => True) (xQi x Q) 30 [(0, .ref (x.2.2.1 + 260)), (1, iV p1)] [] μ := by
  refine x_ran (fun n0 => ?_)
  have h := h n0
  refine x_iload_n 1 rfl dX11_grundy_30 ?_
  refine x_iconst dX11_grundy_31 ?_
  refine x_icmpne (tgt := 43) hp1 ⟨by decide, by decide⟩ dX11_grundy_32 (by decide) (fun k10 => ?_) (fun k10 => ?_)
  · have h := h.1 k10
    refine x_aload_n 0 rfl dX11_grundy_43 ?_
    refine x_iload_n 1 rfl dX11_grundy_44 ?_
    refine x_callVz (As := [iV p1]) (rest := []) cal_X11_isGood ins_X11_isGood sel_X11_isGood ly260 (by decide) rfl (xX11_isGood x p1 _ _ hp1 h) rfl ml_X11_240 (xRoom (Nat.le_of_ble_eq_true rfl)) (Nat.le_of_ble_eq_true rfl) dX11_grundy_45 (fun r13 μ11 i14 n12 h => ?_)
    have h := h i14 n12
    refine x_ifeq (tgt := 60) (xIz i14)  dX11_grundy_48 (by decide) (fun k15 => ?_) (fun k15 => ?_)
    · have h := h.1 k15
      refine x_aload_n 0 rfl dX11_grundy_60 ?_
      refine x_iconst dX11_grundy_61 ?_
      refine x_callVi (As := [iV 5]) (rest := []) cal_X11_no ins_X11_no sel_X11_no ly260 (by decide) rfl (xX11_no x 5 _ _ ⟨by decide, by decide⟩ h) rfl ml_X11_158 (xRoom (Nat.le_of_ble_eq_true rfl)) (Nat.le_of_ble_eq_true rfl) dX11_grundy_62 (fun r18 μ16 i19 n17 h => ?_)
      have h := h i19 n17
      exact x_iret h i19 rfl dX11_grundy_65
    · have h := h.2 (xz1 i14 k15)
      refine x_aload_n 0 rfl dX11_grundy_51 ?_
      refine x_getR (j := 22) (r := 269) ly260 (by decide) rfl rfl (by decide) inT11 fl_X11_38 dX11_grundy_52 ?_
      refine x_iload_n 1 rfl dX11_grundy_55 ?_
      obtain ⟨c20, h⟩ := h
      refine x_iald ly269 c20.1 c20.2 hp1 (by decide) dX11_grundy_56 (fun r21 => ?_)
      refine x_goto (tgt := 65) dX11_grundy_57 (by decide) ?_
      exact x_iret h r21 rfl dX11_grundy_65
  · have h := h.2 k10
    refine x_aload_n 0 rfl dX11_grundy_35 ?_
    refine x_getR (j := 22) (r := 269) ly260 (by decide) rfl rfl (by decide) inT11 fl_X11_38 dX11_grundy_36 ?_
    refine x_bipush dX11_grundy_39 (by decide) ?_
    refine x_iald ly269 (by decide) (by decide) ⟨by decide, by decide⟩ (by decide) dX11_grundy_41 (fun r22 => ?_)
    exact x_iret h r22 rfl dX11_grundy_42
set_option maxRecDepth 100000 in
set_option maxHeartbeats 4000000 in
theorem xX11_grundy (x : xX) (p1 : Int) (μ : xM) (Q : Int → xM → Prop) (hp1 : xIn p1) (h : tX11_grundy p1 μ Q) : xMet x 3 yX11_grundy cX11_grundy 2 (some .int) [.ref (x.2.2.1 + 260), iV p1] μ (xQi x Q) := by
  refine xMet_of (by decide +kernel) (Nat.le_of_ble_eq_true rfl) ?_
  show xW x (xRm 3, RX11, cX11_grundy, 2, (some .int), fun _ _ => True) (xQi x Q) 0 [(0, .ref (x.2.2.1 + 260)), (1, iV p1)] [] μ
  refine x_ran (fun n0 => ?_)
  have h := h n0 hp1
  refine x_aload_n 0 rfl dX11_grundy_0 ?_
  refine x_callVv (As := []) (rest := []) cal_X11_good ins_X11_good sel_X11_good ly260 (by decide) rfl (xX11_good x  _ _  h) rfl ml_X11_155 (xRoom (Nat.le_of_ble_eq_true rfl)) (Nat.le_of_ble_eq_true rfl) dX11_grundy_1 (fun μ1 n2 h => ?_)
  have h := h n2
  refine x_aload_n 0 rfl dX11_grundy_4 ?_
  refine x_getI (j := 14) ly260 (by decide) rfl rfl (by decide) inT11 fl_X11_164 dX11_grundy_5 (fun r3 => ?_)
  refine x_ifeq (tgt := 24) r3  dX11_grundy_8 (by decide) (fun k4 => ?_) (fun k4 => ?_)
  · have h := h.1 k4
    refine x_aload_n 0 rfl dX11_grundy_24 ?_
    refine x_iconst dX11_grundy_25 ?_
    refine x_callVi (As := [iV 1]) (rest := []) cal_X11_no ins_X11_no sel_X11_no ly260 (by decide) rfl (xX11_no x 1 _ _ ⟨by decide, by decide⟩ h) rfl ml_X11_158 (xRoom (Nat.le_of_ble_eq_true rfl)) (Nat.le_of_ble_eq_true rfl) dX11_grundy_26 (fun r7 μ5 i8 n6 h => ?_)
    have h := h i8 n6
    exact x_iret h i8 rfl dX11_grundy_29
  · have h := h.2 k4
    refine x_iload_n 1 rfl dX11_grundy_11 ?_
    refine x_iconst dX11_grundy_12 ?_
    refine x_icmpeq (tgt := 30) hp1 ⟨by decide, by decide⟩ dX11_grundy_13 (by decide) (fun k9 => ?_) (fun k9 => ?_)
    · have h := h.1 k9
      exact x_sub [0, 1] rfl (xX11_grundy_b30 x p1 μ1 Q  hp1 h)
    · have h := h.2 k9
      refine x_aload_n 0 rfl dX11_grundy_16 ?_
      refine x_iload_n 1 rfl dX11_grundy_17 ?_
      refine x_callVz (As := [iV p1]) (rest := []) cal_X11_isWordThere ins_X11_isWordThere sel_X11_isWordThere ly260 (by decide) rfl (xX11_isWordThere x p1 _ _ hp1 h) rfl ml_X11_249 (xRoom (Nat.le_of_ble_eq_true rfl)) (Nat.le_of_ble_eq_true rfl) dX11_grundy_18 (fun r25 μ23 i26 n24 h => ?_)
      have h := h i26 n24
      refine x_ifne (tgt := 30) (xIz i26)  dX11_grundy_21 (by decide) (fun k27 => ?_) (fun k27 => ?_)
      · have h := h.1 (xz1 i26 k27)
        exact x_sub [0, 1] rfl (xX11_grundy_b30 x p1 μ23 Q  hp1 h)
      · have h := h.2 k27
        refine x_aload_n 0 rfl dX11_grundy_24 ?_
        refine x_iconst dX11_grundy_25 ?_
        refine x_callVi (As := [iV 1]) (rest := []) cal_X11_no ins_X11_no sel_X11_no ly260 (by decide) rfl (xX11_no x 1 _ _ ⟨by decide, by decide⟩ h) rfl ml_X11_158 (xRoom (Nat.le_of_ble_eq_true rfl)) (Nat.le_of_ble_eq_true rfl) dX11_grundy_26 (fun r30 μ28 i31 n29 h => ?_)
        have h := h i31 n29
        exact x_iret h i31 rfl dX11_grundy_29
set_option maxRecDepth 100000 in
set_option maxHeartbeats 4000000 in
theorem xX11_layFar (x : xX) (p1 : Int) (μ : xM) (Q : xM → Prop) (hp1 : xIn p1) (h : tX11_layFar p1 μ Q) : xMet x 1 yX11_layFar cX11_layFar 5 none [.ref (x.2.2.1 + 260), iV p1] μ (xQv x Q) := by
  refine xMet_of (by decide +kernel) (Nat.le_of_ble_eq_true rfl) ?_
  show xW x (xRm 1, RX11, cX11_layFar, 5, none, fun _ _ => True) (xQv x Q) 0 [(0, .ref (x.2.2.1 + 260)), (1, iV p1)] [] μ
  refine x_ran (fun n0 => ?_)
  have h := h n0 hp1
  refine x_iconst dX11_layFar_0 ?_
  refine x_istore_n [(2, iV 0), (0, .ref (x.2.2.1 + 260)), (1, iV p1)] dX11_layFar_1 (show 2 < 5 by decide) rfl ?_
  refine x_sub [1, 2, 0] rfl ?_
  refine x_loop1 (fun l2_1 => [(0, .ref (x.2.2.1 + 260)), (1, iV p1), (2, iV l2_1)]) h (fun J2 l2_1 μ2 hJ2 h n3 => ?_)
  refine x_iload_n 2 rfl dX11_layFar_2 ?_
  refine x_bipush dX11_layFar_3 (by decide) ?_
  obtain ⟨c4, h⟩ := h
  refine x_icmpge (tgt := 21) c4 ⟨by decide, by decide⟩ dX11_layFar_5 (by decide) (fun k5 => ?_) (fun k5 => ?_)
  · have h := h.1 k5
    refine x_aload_n 0 rfl dX11_layFar_21 ?_
    refine x_getR (j := 24) (r := 271) ly260 (by decide) rfl rfl (by decide) inT11 fl_X11_44 dX11_layFar_22 ?_
    refine x_iload_n 1 rfl dX11_layFar_25 ?_
    refine x_iconst dX11_layFar_26 ?_
    obtain ⟨c6, h⟩ := h
    refine x_iast ly271 c6.1 c6.2 hp1 ⟨by decide, by decide⟩ (by decide) dX11_layFar_27 (fun μ7 e9 n8 => ?_)
    have h := h μ7 e9 n8
    refine x_iconst dX11_layFar_28 ?_
    refine x_istore_n [(2, iV 0), (0, .ref (x.2.2.1 + 260)), (1, iV p1)] dX11_layFar_29 (show 2 < 5 by decide) rfl ?_
    refine x_sub [1, 0] rfl ?_
    refine x_loop1 (fun l2_10 => [(0, .ref (x.2.2.1 + 260)), (2, iV l2_10)]) h (fun J30 l2_10 μ11 hJ30 h n12 => ?_)
    refine x_iload_n 1 rfl dX11_layFar_30 ?_
    refine x_bipush dX11_layFar_31 (by decide) ?_
    obtain ⟨c13, h⟩ := h
    refine x_icmpge (tgt := 143) c13 ⟨by decide, by decide⟩ dX11_layFar_33 (by decide) (fun k14 => ?_) (fun k14 => ?_)
    · have h := h.1 k14
      exact x_vret h rfl dX11_layFar_143
    · have h := h.2 k14
      refine x_iconst dX11_layFar_36 ?_
      refine x_istore_n [(3, iV 0), (0, .ref (x.2.2.1 + 260)), (2, iV l2_10)] dX11_layFar_37 (show 3 < 5 by decide) rfl ?_
      refine x_sub [1, 2, 0] rfl ?_
      refine x_loop1 (fun l3_15 => [(0, .ref (x.2.2.1 + 260)), (2, iV l2_10), (3, iV l3_15)]) h (fun J38 l3_15 μ16 hJ38 h n17 => ?_)
      refine x_iload_n 2 rfl dX11_layFar_38 ?_
      refine x_aload_n 0 rfl dX11_layFar_39 ?_
      refine x_getR (j := 15) (r := 263) ly260 (by decide) rfl rfl (by decide) inT11 fl_X11_20 dX11_layFar_40 ?_
      refine x_iconst dX11_layFar_43 ?_
      refine x_iald ly263 (by decide) (by decide) ⟨by decide, by decide⟩ (by decide) dX11_layFar_44 (fun r18 => ?_)
      obtain ⟨c19, h⟩ := h
      refine x_icmpge (tgt := 137) c19 r18 dX11_layFar_45 (by decide) (fun k20 => ?_) (fun k20 => ?_)
      · have h := h.1 k20
        refine x_iinc 1 rfl [(2, iV (l2_10 + 1)), (0, .ref (x.2.2.1 + 260)), (3, iV l3_15)] dX11_layFar_137 (show 2 < 5 by decide) rfl ?_
        refine x_goto (tgt := 30) dX11_layFar_140 (by decide) ?_
        exact x_sub [1, 0] rfl (hJ30 _ _ h)
      · have h := h.2 k20
        refine x_aload_n 0 rfl dX11_layFar_48 ?_
        refine x_getR (j := 24) (r := 271) ly260 (by decide) rfl rfl (by decide) inT11 fl_X11_44 dX11_layFar_49 ?_
        refine x_iload_n 2 rfl dX11_layFar_52 ?_
        obtain ⟨c21, h⟩ := h
        refine x_iald ly271 c21.1 c21.2 (xIb (n := 24) c21 (by decide)) (by decide) dX11_layFar_53 (fun r22 => ?_)
        refine x_iload_n 1 rfl dX11_layFar_54 ?_
        obtain ⟨c23, h⟩ := h
        refine x_icmpeq (tgt := 61) r22 c23 dX11_layFar_55 (by decide) (fun k24 => ?_) (fun k24 => ?_)
        · have h := h.1 k24
          refine x_iconst dX11_layFar_61 ?_
          refine x_istore [(4, iV 0), (0, .ref (x.2.2.1 + 260)), (2, iV l2_10), (3, iV l3_15)] dX11_layFar_62 (show 4 < 5 by decide) rfl ?_
          refine x_sub [1, 2, 3, 0] rfl ?_
          refine x_loop1 (fun l4_25 => [(0, .ref (x.2.2.1 + 260)), (2, iV l2_10), (3, iV l3_15), (4, iV l4_25)]) h (fun J64 l4_25 μ26 hJ64 h n27 => ?_)
          refine x_iload 3 rfl dX11_layFar_64 ?_
          refine x_aload_n 0 rfl dX11_layFar_66 ?_
          refine x_getR (j := 15) (r := 263) ly260 (by decide) rfl rfl (by decide) inT11 fl_X11_20 dX11_layFar_67 ?_
          refine x_iconst dX11_layFar_70 ?_
          refine x_iald ly263 (by decide) (by decide) ⟨by decide, by decide⟩ (by decide) dX11_layFar_71 (fun r28 => ?_)
          obtain ⟨c29, h⟩ := h
          refine x_icmpge (tgt := 131) c29 r28 dX11_layFar_72 (by decide) (fun k30 => ?_) (fun k30 => ?_)
          · have h := h.1 k30
            refine x_iinc 2 rfl [(3, iV (l3_15 + 1)), (0, .ref (x.2.2.1 + 260)), (2, iV l2_10), (4, iV l4_25)] dX11_layFar_131 (show 3 < 5 by decide) rfl ?_
            refine x_goto (tgt := 38) dX11_layFar_134 (by decide) ?_
            exact x_sub [1, 2, 0] rfl (hJ38 _ _ h)
          · have h := h.2 k30
            refine x_aload_n 0 rfl dX11_layFar_75 ?_
            refine x_getR (j := 24) (r := 271) ly260 (by decide) rfl rfl (by decide) inT11 fl_X11_44 dX11_layFar_76 ?_
            refine x_iload 3 rfl dX11_layFar_79 ?_
            obtain ⟨c31, h⟩ := h
            refine x_iald ly271 c31.1 c31.2 (xIb (n := 24) c31 (by decide)) (by decide) dX11_layFar_81 (fun r32 => ?_)
            refine x_ifge (tgt := 125) r32  dX11_layFar_82 (by decide) (fun k33 => ?_) (fun k33 => ?_)
            · have h := h.1 k33
              refine x_iinc 3 rfl [(4, iV (l4_25 + 1)), (0, .ref (x.2.2.1 + 260)), (2, iV l2_10), (3, iV l3_15)] dX11_layFar_125 (show 4 < 5 by decide) rfl ?_
              refine x_goto (tgt := 64) dX11_layFar_128 (by decide) ?_
              exact x_sub [1, 2, 3, 0] rfl (hJ64 _ _ h)
            · have h := h.2 k33
              refine x_aload_n 0 rfl dX11_layFar_85 ?_
              refine x_getR (j := 20) (r := 267) ly260 (by decide) rfl rfl (by decide) inT11 fl_X11_32 dX11_layFar_86 ?_
              refine x_bipush dX11_layFar_89 (by decide) ?_
              refine x_iload_n 2 rfl dX11_layFar_91 ?_
              refine x_imul dX11_layFar_92 ?_
              refine x_iload 3 rfl dX11_layFar_93 ?_
              refine x_iadd dX11_layFar_95 ?_
              obtain ⟨c34, h⟩ := h
              refine x_iald ly267 c34.1 c34.2 (xIb (n := 600) c34 (by decide)) (by decide) dX11_layFar_96 (fun r35 => ?_)
              refine x_ifge (tgt := 115) r35  dX11_layFar_97 (by decide) (fun k36 => ?_) (fun k36 => ?_)
              · have h := h.1 k36
                refine x_aload_n 0 rfl dX11_layFar_115 ?_
                refine x_getR (j := 24) (r := 271) ly260 (by decide) rfl rfl (by decide) inT11 fl_X11_44 dX11_layFar_116 ?_
                refine x_iload 3 rfl dX11_layFar_119 ?_
                refine x_iload_n 1 rfl dX11_layFar_121 ?_
                refine x_iconst dX11_layFar_122 ?_
                refine x_iadd dX11_layFar_123 ?_
                obtain ⟨c37, h⟩ := h
                refine x_iast ly271 c31.1 c31.2 (xIb (n := 24) c31 (by decide)) c37 (by decide) dX11_layFar_124 (fun μ38 e40 n39 => ?_)
                have h := h μ38 e40 n39
                refine x_iinc 3 rfl [(4, iV (l4_25 + 1)), (0, .ref (x.2.2.1 + 260)), (2, iV l2_10), (3, iV l3_15)] dX11_layFar_125 (show 4 < 5 by decide) rfl ?_
                refine x_goto (tgt := 64) dX11_layFar_128 (by decide) ?_
                exact x_sub [1, 2, 3, 0] rfl (hJ64 _ _ h)
              · have h := h.2 k36
                refine x_aload_n 0 rfl dX11_layFar_100 ?_
                refine x_getR (j := 20) (r := 267) ly260 (by decide) rfl rfl (by decide) inT11 fl_X11_32 dX11_layFar_101 ?_
                refine x_bipush dX11_layFar_104 (by decide) ?_
                refine x_iload 3 rfl dX11_layFar_106 ?_
                refine x_imul dX11_layFar_108 ?_
                refine x_iload_n 2 rfl dX11_layFar_109 ?_
                refine x_iadd dX11_layFar_110 ?_
                obtain ⟨c41, h⟩ := h
                refine x_iald ly267 c41.1 c41.2 (xIb (n := 600) c41 (by decide)) (by decide) dX11_layFar_111 (fun r42 => ?_)
                refine x_iflt (tgt := 125) r42  dX11_layFar_112 (by decide) (fun k43 => ?_) (fun k43 => ?_)
                · have h := h.1 k43
                  refine x_iinc 3 rfl [(4, iV (l4_25 + 1)), (0, .ref (x.2.2.1 + 260)), (2, iV l2_10), (3, iV l3_15)] dX11_layFar_125 (show 4 < 5 by decide) rfl ?_
                  refine x_goto (tgt := 64) dX11_layFar_128 (by decide) ?_
                  exact x_sub [1, 2, 3, 0] rfl (hJ64 _ _ h)
                · have h := h.2 k43
                  refine x_aload_n 0 rfl dX11_layFar_115 ?_
                  refine x_getR (j := 24) (r := 271) ly260 (by decide) rfl rfl (by decide) inT11 fl_X11_44 dX11_layFar_116 ?_
                  refine x_iload 3 rfl dX11_layFar_119 ?_
                  refine x_iload_n 1 rfl dX11_layFar_121 ?_
                  refine x_iconst dX11_layFar_122 ?_
                  refine x_iadd dX11_layFar_123 ?_
                  obtain ⟨c44, h⟩ := h
                  refine x_iast ly271 c31.1 c31.2 (xIb (n := 24) c31 (by decide)) c44 (by decide) dX11_layFar_124 (fun μ45 e47 n46 => ?_)
                  have h := h μ45 e47 n46
                  refine x_iinc 3 rfl [(4, iV (l4_25 + 1)), (0, .ref (x.2.2.1 + 260)), (2, iV l2_10), (3, iV l3_15)] dX11_layFar_125 (show 4 < 5 by decide) rfl ?_
                  refine x_goto (tgt := 64) dX11_layFar_128 (by decide) ?_
                  exact x_sub [1, 2, 3, 0] rfl (hJ64 _ _ h)
        · have h := h.2 k24
          refine x_goto (tgt := 131) dX11_layFar_58 (by decide) ?_
          refine x_iinc 2 rfl [(3, iV (l3_15 + 1)), (0, .ref (x.2.2.1 + 260)), (2, iV l2_10)] dX11_layFar_131 (show 3 < 5 by decide) rfl ?_
          refine x_goto (tgt := 38) dX11_layFar_134 (by decide) ?_
          exact x_sub [1, 2, 0] rfl (hJ38 _ _ h)
  · have h := h.2 k5
    refine x_aload_n 0 rfl dX11_layFar_8 ?_
    refine x_getR (j := 24) (r := 271) ly260 (by decide) rfl rfl (by decide) inT11 fl_X11_44 dX11_layFar_9 ?_
    refine x_iload_n 2 rfl dX11_layFar_12 ?_
    refine x_iconst dX11_layFar_13 ?_
    obtain ⟨c48, h⟩ := h
    refine x_iast ly271 c48.1 c48.2 (xIb (n := 24) c48 (by decide)) ⟨by decide, by decide⟩ (by decide) dX11_layFar_14 (fun μ49 e51 n50 => ?_)
    have h := h μ49 e51 n50
    refine x_iinc 2 rfl [(2, iV (l2_1 + 1)), (0, .ref (x.2.2.1 + 260)), (1, iV p1)] dX11_layFar_15 (show 2 < 5 by decide) rfl ?_
    refine x_goto (tgt := 2) dX11_layFar_18 (by decide) ?_
    exact x_sub [1, 2, 0] rfl (hJ2 _ _ h)
set_option maxRecDepth 100000 in
set_option maxHeartbeats 4000000 in
theorem xX11_pairWhy (x : xX) (p1 : Int) (p2 : Int) (μ : xM) (Q : Int → xM → Prop) (hp1 : xIn p1) (hp2 : xIn p2) (h : tX11_pairWhy p1 p2 μ Q) : xMet x 3 yX11_pairWhy cX11_pairWhy 3 (some .int) [.ref (x.2.2.1 + 260), iV p1, iV p2] μ (xQi x Q) := by
  refine xMet_of (by decide +kernel) (Nat.le_of_ble_eq_true rfl) ?_
  show xW x (xRm 3, RX11, cX11_pairWhy, 3, (some .int), fun _ _ => True) (xQi x Q) 0 [(0, .ref (x.2.2.1 + 260)), (1, iV p1), (2, iV p2)] [] μ
  refine x_ran (fun n0 => ?_)
  have h := h n0 hp1 hp2
  refine x_aload_n 0 rfl dX11_pairWhy_0 ?_
  refine x_iload_n 1 rfl dX11_pairWhy_1 ?_
  refine x_callVz (As := [iV p1]) (rest := []) cal_X11_isWordThere ins_X11_isWordThere sel_X11_isWordThere ly260 (by decide) rfl (xX11_isWordThere x p1 _ _ hp1 h) rfl ml_X11_249 (xRoom (Nat.le_of_ble_eq_true rfl)) (Nat.le_of_ble_eq_true rfl) dX11_pairWhy_2 (fun r3 μ1 i4 n2 h => ?_)
  have h := h i4 n2
  refine x_ifeq (tgt := 16) (xIz i4)  dX11_pairWhy_5 (by decide) (fun k5 => ?_) (fun k5 => ?_)
  · have h := h.1 k5
    refine x_iconst dX11_pairWhy_16 ?_
    refine x_goto (tgt := 41) dX11_pairWhy_17 (by decide) ?_
    exact x_iret h ⟨by decide, by decide⟩ rfl dX11_pairWhy_41
  · have h := h.2 (xz1 i4 k5)
    refine x_aload_n 0 rfl dX11_pairWhy_8 ?_
    refine x_iload_n 2 rfl dX11_pairWhy_9 ?_
    refine x_callVz (As := [iV p2]) (rest := []) cal_X11_isWordThere ins_X11_isWordThere sel_X11_isWordThere ly260 (by decide) rfl (xX11_isWordThere x p2 _ _ hp2 h) rfl ml_X11_249 (xRoom (Nat.le_of_ble_eq_true rfl)) (Nat.le_of_ble_eq_true rfl) dX11_pairWhy_10 (fun r8 μ6 i9 n7 h => ?_)
    have h := h i9 n7
    refine x_ifne (tgt := 20) (xIz i9)  dX11_pairWhy_13 (by decide) (fun k10 => ?_) (fun k10 => ?_)
    · have h := h.1 (xz1 i9 k10)
      refine x_aload_n 0 rfl dX11_pairWhy_20 ?_
      refine x_iload_n 1 rfl dX11_pairWhy_21 ?_
      refine x_callVz (As := [iV p1]) (rest := []) cal_X11_isGood ins_X11_isGood sel_X11_isGood ly260 (by decide) rfl (xX11_isGood x p1 _ _ hp1 h) rfl ml_X11_240 (xRoom (Nat.le_of_ble_eq_true rfl)) (Nat.le_of_ble_eq_true rfl) dX11_pairWhy_22 (fun r13 μ11 i14 n12 h => ?_)
      have h := h i14 n12
      refine x_ifeq (tgt := 40) (xIz i14)  dX11_pairWhy_25 (by decide) (fun k15 => ?_) (fun k15 => ?_)
      · have h := h.1 k15
        refine x_iconst dX11_pairWhy_40 ?_
        exact x_iret h ⟨by decide, by decide⟩ rfl dX11_pairWhy_41
      · have h := h.2 (xz1 i14 k15)
        refine x_aload_n 0 rfl dX11_pairWhy_28 ?_
        refine x_iload_n 2 rfl dX11_pairWhy_29 ?_
        refine x_callVz (As := [iV p2]) (rest := []) cal_X11_isGood ins_X11_isGood sel_X11_isGood ly260 (by decide) rfl (xX11_isGood x p2 _ _ hp2 h) rfl ml_X11_240 (xRoom (Nat.le_of_ble_eq_true rfl)) (Nat.le_of_ble_eq_true rfl) dX11_pairWhy_30 (fun r18 μ16 i19 n17 h => ?_)
        have h := h i19 n17
        refine x_ifeq (tgt := 40) (xIz i19)  dX11_pairWhy_33 (by decide) (fun k20 => ?_) (fun k20 => ?_)
        · have h := h.1 k20
          refine x_iconst dX11_pairWhy_40 ?_
          exact x_iret h ⟨by decide, by decide⟩ rfl dX11_pairWhy_41
        · have h := h.2 (xz1 i19 k20)
          refine x_iconst dX11_pairWhy_36 ?_
          refine x_goto (tgt := 41) dX11_pairWhy_37 (by decide) ?_
          exact x_iret h ⟨by decide, by decide⟩ rfl dX11_pairWhy_41
    · have h := h.2 k10
      refine x_iconst dX11_pairWhy_16 ?_
      refine x_goto (tgt := 41) dX11_pairWhy_17 (by decide) ?_
      exact x_iret h ⟨by decide, by decide⟩ rfl dX11_pairWhy_41
set_option maxRecDepth 100000 in
set_option maxHeartbeats 4000000 in
theorem xX11_ladder (x : xX) (p1 : Int) (p2 : Int) (μ : xM) (Q : Int → xM → Prop) (hp1 : xIn p1) (hp2 : xIn p2) (h : tX11_ladder p1 p2 μ Q) : xMet x 4 yX11_ladder cX11_ladder 4 (some .int) [.ref (x.2.2.1 + 260), iV p1, iV p2] μ (xQi x Q) := by
  refine xMet_of (by decide +kernel) (Nat.le_of_ble_eq_true rfl) ?_
  show xW x (xRm 4, RX11, cX11_ladder, 4, (some .int), fun _ _ => True) (xQi x Q) 0 [(0, .ref (x.2.2.1 + 260)), (1, iV p1), (2, iV p2)] [] μ
  refine x_ran (fun n0 => ?_)
  have h := h n0 hp1 hp2
  refine x_aload_n 0 rfl dX11_ladder_0 ?_
  refine x_callVv (As := []) (rest := []) cal_X11_good ins_X11_good sel_X11_good ly260 (by decide) rfl (xX11_good x  _ _  h) rfl ml_X11_155 (xRoom (Nat.le_of_ble_eq_true rfl)) (Nat.le_of_ble_eq_true rfl) dX11_ladder_1 (fun μ1 n2 h => ?_)
  have h := h n2
  refine x_aload_n 0 rfl dX11_ladder_4 ?_
  refine x_iload_n 1 rfl dX11_ladder_5 ?_
  refine x_iload_n 2 rfl dX11_ladder_6 ?_
  refine x_callVi (As := [iV p1, iV p2]) (rest := []) cal_X11_pairWhy ins_X11_pairWhy sel_X11_pairWhy ly260 (by decide) rfl (xX11_pairWhy x p1 p2 _ _ hp1 hp2 h) rfl ml_X11_252 (xRoom (Nat.le_of_ble_eq_true rfl)) (Nat.le_of_ble_eq_true rfl) dX11_ladder_7 (fun r5 μ3 i6 n4 h => ?_)
  have h := h i6 n4
  refine x_istore_n [(3, iV r5), (0, .ref (x.2.2.1 + 260)), (1, iV p1), (2, iV p2)] dX11_ladder_10 (show 3 < 4 by decide) rfl ?_
  refine x_iload_n 0 rfl dX11_ladder_11 ?_
  refine x_ifeq (tgt := 21) i6  dX11_ladder_12 (by decide) (fun k7 => ?_) (fun k7 => ?_)
  · have h := h.1 k7
    refine x_aload_n 1 rfl dX11_ladder_21 ?_
    refine x_iload_n 3 rfl dX11_ladder_22 ?_
    refine x_callVv (As := [iV p2]) (rest := []) cal_X11_layFar ins_X11_layFar sel_X11_layFar ly260 (by decide) rfl (xX11_layFar x p2 _ _ hp2 h) rfl ml_X11_255 (xRoom (Nat.le_of_ble_eq_true rfl)) (Nat.le_of_ble_eq_true rfl) dX11_ladder_23 (fun μ8 n9 h => ?_)
    have h := h n9
    refine x_aload_n 1 rfl dX11_ladder_26 ?_
    refine x_getR (j := 24) (r := 271) ly260 (by decide) rfl rfl (by decide) inT11 fl_X11_44 dX11_ladder_27 ?_
    refine x_iload_n 2 rfl dX11_ladder_30 ?_
    obtain ⟨c10, h⟩ := h
    refine x_iald ly271 c10.1 c10.2 hp1 (by decide) dX11_ladder_31 (fun r11 => ?_)
    refine x_ifge (tgt := 40) r11  dX11_ladder_32 (by decide) (fun k12 => ?_) (fun k12 => ?_)
    · have h := h.1 k12
      refine x_aload_n 1 rfl dX11_ladder_40 ?_
      refine x_getR (j := 24) (r := 271) ly260 (by decide) rfl rfl (by decide) inT11 fl_X11_44 dX11_ladder_41 ?_
      refine x_iload_n 2 rfl dX11_ladder_44 ?_
      refine x_iald ly271 c10.1 c10.2 hp1 (by decide) dX11_ladder_45 (fun r13 => ?_)
      exact x_iret h r13 rfl dX11_ladder_46
    · have h := h.2 k12
      refine x_bipush dX11_ladder_35 (by decide) ?_
      refine x_goto (tgt := 46) dX11_ladder_37 (by decide) ?_
      exact x_iret h ⟨by decide, by decide⟩ rfl dX11_ladder_46
  · have h := h.2 k7
    refine x_aload_n 1 rfl dX11_ladder_15 ?_
    refine x_iload_n 0 rfl dX11_ladder_16 ?_
    refine x_callVi (As := [iV r5]) (rest := []) cal_X11_no ins_X11_no sel_X11_no ly260 (by decide) rfl (xX11_no x r5 _ _ i6 h) rfl ml_X11_158 (xRoom (Nat.le_of_ble_eq_true rfl)) (Nat.le_of_ble_eq_true rfl) dX11_ladder_17 (fun r16 μ14 i17 n15 h => ?_)
    have h := h i17 n15
    exact x_iret h i17 rfl dX11_ladder_20
set_option maxRecDepth 100000 in
set_option maxHeartbeats 4000000 in
theorem xX11_rung_b18 (x : xX) (p1 : Int) (p2 : Int) (p3 : Int) (s0 : Int) (μ : xM) (Q : Int → xM → Prop)  (hp1 : xIn p1) (hp2 : xIn p2) (hp3 : xIn p3)  (h : tX11_rung_b18 p1 p2 p3 s0 μ Q ) : xW x (xRm 4, RX11, cX11_rung, 8, (some .int), fun _ _ => True) (xQi x Q) 18 [(0, .ref (x.2.2.1 + 260)), (1, iV p1), (2, iV p2), (3, iV p3)] [iV s0] μ := by
  refine x_ran (fun n0 => ?_)
  have h := h n0
  refine x_istore [(4, iV s0), (0, .ref (x.2.2.1 + 260)), (1, iV p1), (2, iV p2), (3, iV p3)] dX11_rung_18 (show 4 < 8 by decide) rfl ?_
  refine x_iload 0 rfl dX11_rung_20 ?_
  obtain ⟨c8, h⟩ := h
  refine x_ifeq (tgt := 32) c8  dX11_rung_22 (by decide) (fun k9 => ?_) (fun k9 => ?_)
  · have h := h.1 k9
    refine x_aload_n 1 rfl dX11_rung_32 ?_
    refine x_iload_n 3 rfl dX11_rung_33 ?_
    refine x_callVv (As := [iV p2]) (rest := []) cal_X11_layFar ins_X11_layFar sel_X11_layFar ly260 (by decide) rfl (xX11_layFar x p2 _ _ hp2 h) rfl ml_X11_255 (xRoom (Nat.le_of_ble_eq_true rfl)) (Nat.le_of_ble_eq_true rfl) dX11_rung_34 (fun μ10 n11 h => ?_)
    have h := h n11
    refine x_aload_n 1 rfl dX11_rung_37 ?_
    refine x_getR (j := 24) (r := 271) ly260 (by decide) rfl rfl (by decide) inT11 fl_X11_44 dX11_rung_38 ?_
    refine x_iload_n 2 rfl dX11_rung_41 ?_
    obtain ⟨c12, h⟩ := h
    refine x_iald ly271 c12.1 c12.2 hp1 (by decide) dX11_rung_42 (fun r13 => ?_)
    refine x_ifge (tgt := 53) r13  dX11_rung_43 (by decide) (fun k14 => ?_) (fun k14 => ?_)
    · have h := h.1 k14
      refine x_iload_n 4 rfl dX11_rung_53 ?_
      refine x_aload_n 1 rfl dX11_rung_54 ?_
      refine x_getR (j := 24) (r := 271) ly260 (by decide) rfl rfl (by decide) inT11 fl_X11_44 dX11_rung_55 ?_
      refine x_iload_n 2 rfl dX11_rung_58 ?_
      refine x_iald ly271 c12.1 c12.2 hp1 (by decide) dX11_rung_59 (fun r15 => ?_)
      refine x_icmple (tgt := 69) hp3 r15 dX11_rung_60 (by decide) (fun k16 => ?_) (fun k16 => ?_)
      · have h := h.1 k16
        refine x_iload_n 2 rfl dX11_rung_69 ?_
        refine x_istore [(5, iV p1), (4, iV s0), (0, .ref (x.2.2.1 + 260)), (1, iV p1), (2, iV p2), (3, iV p3)] dX11_rung_70 (show 5 < 8 by decide) rfl ?_
        refine x_iconst dX11_rung_72 ?_
        refine x_istore [(6, iV 0), (5, iV p1), (4, iV s0), (0, .ref (x.2.2.1 + 260)), (1, iV p1), (2, iV p2), (3, iV p3)] dX11_rung_73 (show 6 < 8 by decide) rfl ?_
        refine x_sub [3, 6, 1, 0] rfl ?_
        refine x_loop2 (fun l5_17 l6_18 => [(0, .ref (x.2.2.1 + 260)), (3, iV p3), (5, iV l5_17), (6, iV l6_18)]) h (fun J75 l5_17 l6_18 μ19 hJ75 h n20 => ?_)
        refine x_iload 3 rfl dX11_rung_75 ?_
        refine x_iload_n 1 rfl dX11_rung_77 ?_
        obtain ⟨c21, h⟩ := h
        refine x_icmpge (tgt := 151) c21 hp3 dX11_rung_78 (by decide) (fun k22 => ?_) (fun k22 => ?_)
        · have h := h.1 k22
          refine x_iload 2 rfl dX11_rung_151 ?_
          obtain ⟨c23, h⟩ := h
          exact x_iret h c23 rfl dX11_rung_153
        · have h := h.2 k22
          refine x_iconst dX11_rung_81 ?_
          refine x_istore [(7, iV 0), (0, .ref (x.2.2.1 + 260)), (3, iV p3), (5, iV l5_17), (6, iV l6_18)] dX11_rung_82 (show 7 < 8 by decide) rfl ?_
          refine x_sub [1, 2, 3, 4, 0] rfl ?_
          refine x_loop1 (fun l7_24 => [(0, .ref (x.2.2.1 + 260)), (3, iV p3), (5, iV l5_17), (6, iV l6_18), (7, iV l7_24)]) h (fun J84 l7_24 μ25 hJ84 h n26 => ?_)
          refine x_aload_n 0 rfl dX11_rung_84 ?_
          refine x_getR (j := 24) (r := 271) ly260 (by decide) rfl rfl (by decide) inT11 fl_X11_44 dX11_rung_85 ?_
          refine x_iload 4 rfl dX11_rung_88 ?_
          obtain ⟨c27, h⟩ := h
          refine x_iald ly271 c27.1 c27.2 (xIb (n := 24) c27 (by decide)) (by decide) dX11_rung_90 (fun r28 => ?_)
          refine x_aload_n 0 rfl dX11_rung_91 ?_
          refine x_getR (j := 24) (r := 271) ly260 (by decide) rfl rfl (by decide) inT11 fl_X11_44 dX11_rung_92 ?_
          refine x_iload 2 rfl dX11_rung_95 ?_
          obtain ⟨c29, h⟩ := h
          refine x_iald ly271 c29.1 c29.2 (xIb (n := 24) c29 (by decide)) (by decide) dX11_rung_97 (fun r30 => ?_)
          refine x_iconst dX11_rung_98 ?_
          refine x_isub dX11_rung_99 ?_
          obtain ⟨c31, h⟩ := h
          refine x_icmpne (tgt := 135) r28 c31 dX11_rung_100 (by decide) (fun k32 => ?_) (fun k32 => ?_)
          · have h := h.1 k32
            refine x_iinc 4 rfl [(7, iV (l7_24 + 1)), (0, .ref (x.2.2.1 + 260)), (3, iV p3), (5, iV l5_17), (6, iV l6_18)] dX11_rung_135 (show 7 < 8 by decide) rfl ?_
            refine x_goto (tgt := 84) dX11_rung_138 (by decide) ?_
            exact x_sub [1, 2, 3, 4, 0] rfl (hJ84 _ _ h)
          · have h := h.2 k32
            refine x_aload_n 0 rfl dX11_rung_103 ?_
            refine x_getR (j := 20) (r := 267) ly260 (by decide) rfl rfl (by decide) inT11 fl_X11_32 dX11_rung_104 ?_
            refine x_bipush dX11_rung_107 (by decide) ?_
            refine x_iload 2 rfl dX11_rung_109 ?_
            refine x_imul dX11_rung_111 ?_
            refine x_iload 4 rfl dX11_rung_112 ?_
            refine x_iadd dX11_rung_114 ?_
            obtain ⟨c33, h⟩ := h
            refine x_iald ly267 c33.1 c33.2 (xIb (n := 600) c33 (by decide)) (by decide) dX11_rung_115 (fun r34 => ?_)
            refine x_ifge (tgt := 141) r34  dX11_rung_116 (by decide) (fun k35 => ?_) (fun k35 => ?_)
            · have h := h.1 k35
              refine x_iload 4 rfl dX11_rung_141 ?_
              refine x_istore [(5, iV l7_24), (0, .ref (x.2.2.1 + 260)), (3, iV p3), (6, iV l6_18), (7, iV l7_24)] dX11_rung_143 (show 5 < 8 by decide) rfl ?_
              refine x_iinc 3 rfl [(6, iV (l6_18 + 1)), (5, iV l7_24), (0, .ref (x.2.2.1 + 260)), (3, iV p3), (7, iV l7_24)] dX11_rung_145 (show 6 < 8 by decide) rfl ?_
              refine x_goto (tgt := 75) dX11_rung_148 (by decide) ?_
              exact x_sub [2, 3, 1, 0] rfl (hJ75 _ _ _ h)
            · have h := h.2 k35
              refine x_aload_n 0 rfl dX11_rung_119 ?_
              refine x_getR (j := 20) (r := 267) ly260 (by decide) rfl rfl (by decide) inT11 fl_X11_32 dX11_rung_120 ?_
              refine x_bipush dX11_rung_123 (by decide) ?_
              refine x_iload 4 rfl dX11_rung_125 ?_
              refine x_imul dX11_rung_127 ?_
              refine x_iload 2 rfl dX11_rung_128 ?_
              refine x_iadd dX11_rung_130 ?_
              obtain ⟨c36, h⟩ := h
              refine x_iald ly267 c36.1 c36.2 (xIb (n := 600) c36 (by decide)) (by decide) dX11_rung_131 (fun r37 => ?_)
              refine x_ifge (tgt := 141) r37  dX11_rung_132 (by decide) (fun k38 => ?_) (fun k38 => ?_)
              · have h := h.1 k38
                refine x_iload 4 rfl dX11_rung_141 ?_
                refine x_istore [(5, iV l7_24), (0, .ref (x.2.2.1 + 260)), (3, iV p3), (6, iV l6_18), (7, iV l7_24)] dX11_rung_143 (show 5 < 8 by decide) rfl ?_
                refine x_iinc 3 rfl [(6, iV (l6_18 + 1)), (5, iV l7_24), (0, .ref (x.2.2.1 + 260)), (3, iV p3), (7, iV l7_24)] dX11_rung_145 (show 6 < 8 by decide) rfl ?_
                refine x_goto (tgt := 75) dX11_rung_148 (by decide) ?_
                exact x_sub [2, 3, 1, 0] rfl (hJ75 _ _ _ h)
              · have h := h.2 k38
                refine x_iinc 4 rfl [(7, iV (l7_24 + 1)), (0, .ref (x.2.2.1 + 260)), (3, iV p3), (5, iV l5_17), (6, iV l6_18)] dX11_rung_135 (show 7 < 8 by decide) rfl ?_
                refine x_goto (tgt := 84) dX11_rung_138 (by decide) ?_
                exact x_sub [1, 2, 3, 4, 0] rfl (hJ84 _ _ h)
      · have h := h.2 k16
        refine x_aload_n 1 rfl dX11_rung_63 ?_
        refine x_iconst dX11_rung_64 ?_
        refine x_callVi (As := [iV 1]) (rest := []) cal_X11_no ins_X11_no sel_X11_no ly260 (by decide) rfl (xX11_no x 1 _ _ ⟨by decide, by decide⟩ h) rfl ml_X11_158 (xRoom (Nat.le_of_ble_eq_true rfl)) (Nat.le_of_ble_eq_true rfl) dX11_rung_65 (fun r41 μ39 i42 n40 h => ?_)
        have h := h i42 n40
        exact x_iret h i42 rfl dX11_rung_68
    · have h := h.2 k14
      refine x_aload_n 1 rfl dX11_rung_46 ?_
      refine x_bipush dX11_rung_47 (by decide) ?_
      refine x_callVi (As := [iV 6]) (rest := []) cal_X11_no ins_X11_no sel_X11_no ly260 (by decide) rfl (xX11_no x 6 _ _ ⟨by decide, by decide⟩ h) rfl ml_X11_158 (xRoom (Nat.le_of_ble_eq_true rfl)) (Nat.le_of_ble_eq_true rfl) dX11_rung_49 (fun r45 μ43 i46 n44 h => ?_)
      have h := h i46 n44
      exact x_iret h i46 rfl dX11_rung_52
  · have h := h.2 k9
    refine x_aload_n 1 rfl dX11_rung_25 ?_
    refine x_iload 0 rfl dX11_rung_26 ?_
    refine x_callVi (As := [iV s0]) (rest := []) cal_X11_no ins_X11_no sel_X11_no ly260 (by decide) rfl (xX11_no x s0 _ _ c8 h) rfl ml_X11_158 (xRoom (Nat.le_of_ble_eq_true rfl)) (Nat.le_of_ble_eq_true rfl) dX11_rung_28 (fun r49 μ47 i50 n48 h => ?_)
    have h := h i50 n48
    exact x_iret h i50 rfl dX11_rung_31
set_option maxRecDepth 100000 in
set_option maxHeartbeats 4000000 in
theorem xX11_rung (x : xX) (p1 : Int) (p2 : Int) (p3 : Int) (μ : xM) (Q : Int → xM → Prop) (hp1 : xIn p1) (hp2 : xIn p2) (hp3 : xIn p3) (h : tX11_rung p1 p2 p3 μ Q) : xMet x 4 yX11_rung cX11_rung 8 (some .int) [.ref (x.2.2.1 + 260), iV p1, iV p2, iV p3] μ (xQi x Q) := by
  refine xMet_of (by decide +kernel) (Nat.le_of_ble_eq_true rfl) ?_
  show xW x (xRm 4, RX11, cX11_rung, 8, (some .int), fun _ _ => True) (xQi x Q) 0 [(0, .ref (x.2.2.1 + 260)), (1, iV p1), (2, iV p2), (3, iV p3)] [] μ
  refine x_ran (fun n0 => ?_)
  have h := h n0 hp1 hp2 hp3
  refine x_aload_n 0 rfl dX11_rung_0 ?_
  refine x_callVv (As := []) (rest := []) cal_X11_good ins_X11_good sel_X11_good ly260 (by decide) rfl (xX11_good x  _ _  h) rfl ml_X11_155 (xRoom (Nat.le_of_ble_eq_true rfl)) (Nat.le_of_ble_eq_true rfl) dX11_rung_1 (fun μ1 n2 h => ?_)
  have h := h n2
  refine x_iload_n 3 rfl dX11_rung_4 ?_
  refine x_ifge (tgt := 12) hp3  dX11_rung_5 (by decide) (fun k3 => ?_) (fun k3 => ?_)
  · have h := h.1 k3
    refine x_aload_n 0 rfl dX11_rung_12 ?_
    refine x_iload_n 1 rfl dX11_rung_13 ?_
    refine x_iload_n 2 rfl dX11_rung_14 ?_
    refine x_callVi (As := [iV p1, iV p2]) (rest := []) cal_X11_pairWhy ins_X11_pairWhy sel_X11_pairWhy ly260 (by decide) rfl (xX11_pairWhy x p1 p2 _ _ hp1 hp2 h) rfl ml_X11_252 (xRoom (Nat.le_of_ble_eq_true rfl)) (Nat.le_of_ble_eq_true rfl) dX11_rung_15 (fun r6 μ4 i7 n5 h => ?_)
    have h := h i7 n5
    exact x_sub [0, 1, 2, 3] rfl (xX11_rung_b18 x p1 p2 p3 r6 μ4 Q  hp1 hp2 hp3 h)
  · have h := h.2 k3
    refine x_iconst dX11_rung_8 ?_
    refine x_goto (tgt := 18) dX11_rung_9 (by decide) ?_
    exact x_sub [0, 1, 2, 3] rfl (xX11_rung_b18 x p1 p2 p3 1 μ1 Q  hp1 hp2 hp3 h)
