set_option maxRecDepth 100000 in
set_option maxHeartbeats 4000000 in
theorem xX7_measure_b127 (x : xX) (p1 : Nat) (p1n : Nat) (p2 : Int) (b3 : Int) (b4 : Int) (b5 : Int) (b6 : Int) (b7 : Int) (s0 : Int) (μ : xM) (Q : xM → Prop) (J39 : Int → Int → xM → Prop) (J75 : Int → Int → xM → Prop) (hp1 : lay p1 = (1, p1n, []) ∧ p1 < 281 ∧ p1n ≤ 200000) (hp2 : xIn p2)  (hJ39 : ∀ (c3 c4 : Int) (ν : xM), J39 c3 c4 ν → xW x (xRm 3, RX7, cX7_measure, 9, none, fun _ _ => True) (xQv x Q) 39 [(0, .ref (x.2.2.1 + 236)), (1, .ref (x.2.2.1 + p1)), (3, iV c3), (4, iV c4)] [] ν) (hJ75 : ∀ (c3 c7 : Int) (ν : xM), J75 c3 c7 ν → xW x (xRm 3, RX7, cX7_measure, 9, none, fun _ _ => True) (xQv x Q) 75 [(0, .ref (x.2.2.1 + 236)), (1, .ref (x.2.2.1 + p1)), (3, iV c3), (4, iV b4), (5, iV b5), (6, iV b6), (7, iV c7)] [] ν) (h : tX7_measure_b127 p1 p1n p2 b3 b4 b5 b6 b7 s0 μ Q J39 J75) : xW x (xRm 3, RX7, cX7_measure, 9, none, fun _ _ => True) (xQv x Q) 127 [(0, .ref (x.2.2.1 + 236)), (1, .ref (x.2.2.1 + p1)), (3, iV b3), (4, iV b4), (5, iV b5), (6, iV b6), (7, iV b7)] [iV s0] μ := by
  refine x_ran (fun n0 => ?_)
  have h := h n0
  refine x_istore [(8, iV s0), (0, .ref (x.2.2.1 + 236)), (1, .ref (x.2.2.1 + p1)), (3, iV b3), (4, iV b4), (5, iV b5), (6, iV b6), (7, iV b7)] dX7_measure_127 (show 8 < 9 by decide) rfl ?_
  refine x_iload 0 rfl dX7_measure_129 ?_
  obtain ⟨c44, h⟩ := h
  refine x_iflt (tgt := 175) c44  dX7_measure_131 (by decide) (fun k45 => ?_) (fun k45 => ?_)
  · have h := h.1 k45
    refine x_iinc 7 rfl [(7, iV (b7 + 1)), (8, iV s0), (0, .ref (x.2.2.1 + 236)), (1, .ref (x.2.2.1 + p1)), (3, iV b3), (4, iV b4), (5, iV b5), (6, iV b6)] dX7_measure_175 (show 7 < 9 by decide) rfl ?_
    refine x_goto (tgt := 75) dX7_measure_178 (by decide) ?_
    exact x_sub [2, 3, 4, 5, 6, 7, 0] rfl (hJ75 _ _ _ h)
  · have h := h.2 k45
    refine x_iload 0 rfl dX7_measure_134 ?_
    refine x_bipush dX7_measure_136 (by decide) ?_
    refine x_icmpge (tgt := 175) c44 ⟨by decide, by decide⟩ dX7_measure_138 (by decide) (fun k46 => ?_) (fun k46 => ?_)
    · have h := h.1 k46
      refine x_iinc 7 rfl [(7, iV (b7 + 1)), (8, iV s0), (0, .ref (x.2.2.1 + 236)), (1, .ref (x.2.2.1 + p1)), (3, iV b3), (4, iV b4), (5, iV b5), (6, iV b6)] dX7_measure_175 (show 7 < 9 by decide) rfl ?_
      refine x_goto (tgt := 75) dX7_measure_178 (by decide) ?_
      exact x_sub [2, 3, 4, 5, 6, 7, 0] rfl (hJ75 _ _ _ h)
    · have h := h.2 k46
      refine x_aload_n 2 rfl dX7_measure_141 ?_
      refine x_iload 0 rfl dX7_measure_142 ?_
      obtain ⟨c47, h⟩ := h
      refine x_iald hp1.1 c47.1 c47.2 (xIb (n := p1n) c47 hp1.2.2) hp1.2.1 dX7_measure_144 (fun r48 => ?_)
      refine x_ifge (tgt := 175) r48  dX7_measure_145 (by decide) (fun k49 => ?_) (fun k49 => ?_)
      · have h := h.1 k49
        refine x_iinc 7 rfl [(7, iV (b7 + 1)), (8, iV s0), (0, .ref (x.2.2.1 + 236)), (1, .ref (x.2.2.1 + p1)), (3, iV b3), (4, iV b4), (5, iV b5), (6, iV b6)] dX7_measure_175 (show 7 < 9 by decide) rfl ?_
        refine x_goto (tgt := 75) dX7_measure_178 (by decide) ?_
        exact x_sub [2, 3, 4, 5, 6, 7, 0] rfl (hJ75 _ _ _ h)
      · have h := h.2 k49
        refine x_iload_n 3 rfl dX7_measure_148 ?_
        refine x_bipush dX7_measure_149 (by decide) ?_
        obtain ⟨c50, h⟩ := h
        refine x_icmpge (tgt := 175) c50 ⟨by decide, by decide⟩ dX7_measure_151 (by decide) (fun k51 => ?_) (fun k51 => ?_)
        · have h := h.1 k51
          refine x_iinc 7 rfl [(7, iV (b7 + 1)), (8, iV s0), (0, .ref (x.2.2.1 + 236)), (1, .ref (x.2.2.1 + p1)), (3, iV b3), (4, iV b4), (5, iV b5), (6, iV b6)] dX7_measure_175 (show 7 < 9 by decide) rfl ?_
          refine x_goto (tgt := 75) dX7_measure_178 (by decide) ?_
          exact x_sub [2, 3, 4, 5, 6, 7, 0] rfl (hJ75 _ _ _ h)
        · have h := h.2 k51
          refine x_aload_n 2 rfl dX7_measure_154 ?_
          refine x_iload 0 rfl dX7_measure_155 ?_
          refine x_aload_n 2 rfl dX7_measure_157 ?_
          refine x_iload 5 rfl dX7_measure_158 ?_
          obtain ⟨c52, h⟩ := h
          refine x_iald hp1.1 c52.1 c52.2 (xIb (n := p1n) c52 hp1.2.2) hp1.2.1 dX7_measure_160 (fun r53 => ?_)
          refine x_iconst dX7_measure_161 ?_
          refine x_iadd dX7_measure_162 ?_
          obtain ⟨c54, h⟩ := h
          refine x_iast hp1.1 c47.1 c47.2 (xIb (n := p1n) c47 hp1.2.2) c54 hp1.2.1 dX7_measure_163 (fun μ55 e57 n56 => ?_)
          have h := h μ55 e57 n56
          refine x_aload_n 1 rfl dX7_measure_164 ?_
          refine x_getR (j := 4) (r := 242) ly236 (by decide) rfl rfl (by decide) inT7 fl_X7_20 dX7_measure_165 ?_
          refine x_iload_n 3 rfl dX7_measure_168 ?_
          refine x_iload 0 rfl dX7_measure_169 ?_
          obtain ⟨c58, h⟩ := h
          refine x_iast ly242 c58.1 c58.2 (xIb (n := 25) c58 (by decide)) c44 (by decide) dX7_measure_171 (fun μ59 e61 n60 => ?_)
          have h := h μ59 e61 n60
          refine x_iinc 3 rfl [(3, iV (b3 + 1)), (8, iV s0), (0, .ref (x.2.2.1 + 236)), (1, .ref (x.2.2.1 + p1)), (4, iV b4), (5, iV b5), (6, iV b6), (7, iV b7)] dX7_measure_172 (show 3 < 9 by decide) rfl ?_
          refine x_iinc 7 rfl [(7, iV (b7 + 1)), (3, iV (b3 + 1)), (8, iV s0), (0, .ref (x.2.2.1 + 236)), (1, .ref (x.2.2.1 + p1)), (4, iV b4), (5, iV b5), (6, iV b6)] dX7_measure_175 (show 7 < 9 by decide) rfl ?_
          refine x_goto (tgt := 75) dX7_measure_178 (by decide) ?_
          exact x_sub [3, 4, 1, 5, 6, 7, 0] rfl (hJ75 _ _ _ h)
set_option maxRecDepth 100000 in
set_option maxHeartbeats 4000000 in
theorem xX7_measure (x : xX) (p1 : Nat) (p1n : Nat) (p2 : Int) (μ : xM) (Q : xM → Prop) (hp1 : lay p1 = (1, p1n, []) ∧ p1 < 281 ∧ p1n ≤ 200000) (hp2 : xIn p2) (h : tX7_measure p1 p1n p2 μ Q) : xMet x 3 yX7_measure cX7_measure 9 none [.ref (x.2.2.1 + 236), .ref (x.2.2.1 + p1), iV p2] μ (xQv x Q) := by
  refine xMet_of (by decide +kernel) (Nat.le_of_ble_eq_true rfl) ?_
  show xW x (xRm 3, RX7, cX7_measure, 9, none, fun _ _ => True) (xQv x Q) 0 [(0, .ref (x.2.2.1 + 236)), (1, .ref (x.2.2.1 + p1)), (2, iV p2)] [] μ
  refine x_ran (fun n0 => ?_)
  have h := h n0 hp2
  refine x_aload_n 1 rfl dX7_measure_0 ?_
  refine x_iconst dX7_measure_1 ?_
  refine x_callSv (As := [.ref (x.2.2.1 + p1), iV (-1)]) (rest := []) cal_J7_fill_53178 sta_J7_fill_53178 (xJ7_fill_53178 x p1 p1n (-1) _ _ ⟨hp1.1, hp1.2.1, hp1.2.2⟩ ⟨by decide, by decide⟩ h) rfl ml_X7_69 (xRoom (Nat.le_of_ble_eq_true rfl)) (Nat.le_of_ble_eq_true rfl) dX7_measure_2 (fun μ1 n2 h => ?_)
  have h := h n2
  refine x_iload_n 2 rfl dX7_measure_5 ?_
  refine x_iflt (tgt := 22) hp2  dX7_measure_6 (by decide) (fun k3 => ?_) (fun k3 => ?_)
  · have h := h.1 k3
    exact x_vret h rfl dX7_measure_22
  · have h := h.2 k3
    refine x_iload_n 2 rfl dX7_measure_9 ?_
    refine x_bipush dX7_measure_10 (by decide) ?_
    refine x_icmpge (tgt := 22) hp2 ⟨by decide, by decide⟩ dX7_measure_12 (by decide) (fun k4 => ?_) (fun k4 => ?_)
    · have h := h.1 k4
      exact x_vret h rfl dX7_measure_22
    · have h := h.2 k4
      refine x_aload_n 1 rfl dX7_measure_15 ?_
      refine x_alen hp1.1 hp1.2.1 dX7_measure_16 ?_
      refine x_bipush dX7_measure_17 (by decide) ?_
      refine x_icmpge (tgt := 23) ⟨by omega, by have := hp1.2.2; omega⟩ ⟨by decide, by decide⟩ dX7_measure_19 (by decide) (fun k5 => ?_) (fun k5 => ?_)
      · have h := h.1 k5
        refine x_aload_n 1 rfl dX7_measure_23 ?_
        refine x_iload_n 2 rfl dX7_measure_24 ?_
        refine x_iconst dX7_measure_25 ?_
        obtain ⟨c6, h⟩ := h
        refine x_iast hp1.1 c6.1 c6.2 hp2 ⟨by decide, by decide⟩ hp1.2.1 dX7_measure_26 (fun μ7 e9 n8 => ?_)
        have h := h μ7 e9 n8
        refine x_aload_n 0 rfl dX7_measure_27 ?_
        refine x_getR (j := 4) (r := 242) ly236 (by decide) rfl rfl (by decide) inT7 fl_X7_20 dX7_measure_28 ?_
        refine x_iconst dX7_measure_31 ?_
        refine x_iload_n 2 rfl dX7_measure_32 ?_
        refine x_iast ly242 (by decide) (by decide) ⟨by decide, by decide⟩ hp2 (by decide) dX7_measure_33 (fun μ10 e12 n11 => ?_)
        have h := h μ10 e12 n11
        refine x_iconst dX7_measure_34 ?_
        refine x_istore_n [(3, iV 1), (0, .ref (x.2.2.1 + 236)), (1, .ref (x.2.2.1 + p1)), (2, iV p2)] dX7_measure_35 (show 3 < 9 by decide) rfl ?_
        refine x_iconst dX7_measure_36 ?_
        refine x_istore [(4, iV 0), (3, iV 1), (0, .ref (x.2.2.1 + 236)), (1, .ref (x.2.2.1 + p1)), (2, iV p2)] dX7_measure_37 (show 4 < 9 by decide) rfl ?_
        refine x_sub [2, 3, 1, 0] rfl ?_
        refine x_loop2 (fun l3_13 l4_14 => [(0, .ref (x.2.2.1 + 236)), (1, .ref (x.2.2.1 + p1)), (3, iV l3_13), (4, iV l4_14)]) h (fun J39 l3_13 l4_14 μ15 hJ39 h n16 => ?_)
        refine x_iload 3 rfl dX7_measure_39 ?_
        refine x_iload_n 2 rfl dX7_measure_41 ?_
        obtain ⟨c17, h⟩ := h
        obtain ⟨c18, h⟩ := h
        refine x_icmpge (tgt := 187) c17 c18 dX7_measure_42 (by decide) (fun k19 => ?_) (fun k19 => ?_)
        · have h := h.1 k19
          exact x_vret h rfl dX7_measure_187
        · have h := h.2 k19
          refine x_iload 3 rfl dX7_measure_45 ?_
          refine x_bipush dX7_measure_47 (by decide) ?_
          refine x_icmpge (tgt := 187) c17 ⟨by decide, by decide⟩ dX7_measure_49 (by decide) (fun k20 => ?_) (fun k20 => ?_)
          · have h := h.1 k20
            exact x_vret h rfl dX7_measure_187
          · have h := h.2 k20
            refine x_aload_n 0 rfl dX7_measure_52 ?_
            refine x_getR (j := 4) (r := 242) ly236 (by decide) rfl rfl (by decide) inT7 fl_X7_20 dX7_measure_53 ?_
            refine x_iload 3 rfl dX7_measure_56 ?_
            obtain ⟨c21, h⟩ := h
            refine x_iald ly242 c21.1 c21.2 (xIb (n := 25) c21 (by decide)) (by decide) dX7_measure_58 (fun r22 => ?_)
            refine x_istore [(5, iV (μ15 242 l4_14.toNat)), (0, .ref (x.2.2.1 + 236)), (1, .ref (x.2.2.1 + p1)), (3, iV l3_13), (4, iV l4_14)] dX7_measure_59 (show 5 < 9 by decide) rfl ?_
            refine x_aload_n 1 rfl dX7_measure_61 ?_
            refine x_getR (j := 1) (r := 73) ly236 (by decide) rfl rfl (by decide) inT7 fl_X7_39 dX7_measure_62 ?_
            refine x_iload 0 rfl dX7_measure_65 ?_
            refine x_callVi (As := [iV (μ15 242 l4_14.toNat)]) (rest := []) cal_X1_ups ins_X1_ups sel_X1_ups ly73 (by decide) rfl (xX1_ups x (μ15 242 l4_14.toNat) _ _ r22 h) rfl ml_X7_118 (xRoom (Nat.le_of_ble_eq_true rfl)) (Nat.le_of_ble_eq_true rfl) dX7_measure_67 (fun r25 μ23 i26 n24 h => ?_)
            have h := h i26 n24
            refine x_istore [(6, iV r25), (5, iV (μ15 242 l4_14.toNat)), (0, .ref (x.2.2.1 + 236)), (1, .ref (x.2.2.1 + p1)), (3, iV l3_13), (4, iV l4_14)] dX7_measure_70 (show 6 < 9 by decide) rfl ?_
            refine x_iconst dX7_measure_72 ?_
            refine x_istore [(7, iV 0), (6, iV r25), (5, iV (μ15 242 l4_14.toNat)), (0, .ref (x.2.2.1 + 236)), (1, .ref (x.2.2.1 + p1)), (3, iV l3_13), (4, iV l4_14)] dX7_measure_73 (show 7 < 9 by decide) rfl ?_
            refine x_sub [3, 4, 5, 6, 2, 1, 0] rfl ?_
            refine x_loop2 (fun l3_27 l7_28 => [(0, .ref (x.2.2.1 + 236)), (1, .ref (x.2.2.1 + p1)), (3, iV l3_27), (4, iV l4_14), (5, iV (μ15 242 l4_14.toNat)), (6, iV r25), (7, iV l7_28)]) h (fun J75 l3_27 l7_28 μ29 hJ75 h n30 => ?_)
            refine x_iload 6 rfl dX7_measure_75 ?_
            refine x_iload 5 rfl dX7_measure_77 ?_
            refine x_aload_n 0 rfl dX7_measure_79 ?_
            refine x_getR (j := 1) (r := 73) ly236 (by decide) rfl rfl (by decide) inT7 fl_X7_39 dX7_measure_80 ?_
            refine x_iload 4 rfl dX7_measure_83 ?_
            refine x_callVi (As := [iV (μ15 242 l4_14.toNat)]) (rest := [iV r25, iV l7_28]) cal_X1_downs ins_X1_downs sel_X1_downs ly73 (by decide) rfl (xX1_downs x (μ15 242 l4_14.toNat) _ _ r22 h) rfl ml_X7_123 (xRoom (Nat.le_of_ble_eq_true rfl)) (Nat.le_of_ble_eq_true rfl) dX7_measure_85 (fun r33 μ31 i34 n32 h => ?_)
            have h := h i34 n32
            refine x_iadd dX7_measure_88 ?_
            obtain ⟨c35, h⟩ := h
            obtain ⟨c36, h⟩ := h
            refine x_icmpge (tgt := 181) c35 c36 dX7_measure_89 (by decide) (fun k37 => ?_) (fun k37 => ?_)
            · have h := h.1 k37
              refine x_iinc 3 rfl [(4, iV (l4_14 + 1)), (0, .ref (x.2.2.1 + 236)), (1, .ref (x.2.2.1 + p1)), (3, iV l3_27), (5, iV (μ15 242 l4_14.toNat)), (6, iV r25), (7, iV l7_28)] dX7_measure_181 (show 4 < 9 by decide) rfl ?_
              refine x_goto (tgt := 39) dX7_measure_184 (by decide) ?_
              exact x_sub [1, 2, 3, 0] rfl (hJ39 _ _ _ h)
            · have h := h.2 k37
              refine x_iload 6 rfl dX7_measure_92 ?_
              refine x_iload 5 rfl dX7_measure_94 ?_
              refine x_icmpge (tgt := 113) c35 i26 dX7_measure_96 (by decide) (fun k38 => ?_) (fun k38 => ?_)
              · have h := h.1 k38
                refine x_aload_n 0 rfl dX7_measure_113 ?_
                refine x_getR (j := 1) (r := 73) ly236 (by decide) rfl rfl (by decide) inT7 fl_X7_39 dX7_measure_114 ?_
                refine x_iload 4 rfl dX7_measure_117 ?_
                refine x_iload 6 rfl dX7_measure_119 ?_
                refine x_iload 5 rfl dX7_measure_121 ?_
                refine x_isub dX7_measure_123 ?_
                obtain ⟨c39, h⟩ := h
                refine x_callVi (As := [iV (μ15 242 l4_14.toNat), iV (l7_28 - r25)]) (rest := []) cal_X1_downOf ins_X1_downOf sel_X1_downOf ly73 (by decide) rfl (xX1_downOf x (μ15 242 l4_14.toNat) (l7_28 - r25) _ _ r22 c39 h) rfl ml_X7_129 (xRoom (Nat.le_of_ble_eq_true rfl)) (Nat.le_of_ble_eq_true rfl) dX7_measure_124 (fun r42 μ40 i43 n41 h => ?_)
                have h := h i43 n41
                exact x_sub [0, 1, 2, 3, 4, 5, 6] rfl (xX7_measure_b127 x p1 p1n p2 l3_27 l4_14 (μ15 242 l4_14.toNat) r25 l7_28 r42 μ40 Q J39 J75 hp1 hp2 hJ39 hJ75 h)
              · have h := h.2 k38
                refine x_aload_n 0 rfl dX7_measure_99 ?_
                refine x_getR (j := 1) (r := 73) ly236 (by decide) rfl rfl (by decide) inT7 fl_X7_39 dX7_measure_100 ?_
                refine x_iload 4 rfl dX7_measure_103 ?_
                refine x_iload 6 rfl dX7_measure_105 ?_
                refine x_callVi (As := [iV (μ15 242 l4_14.toNat), iV l7_28]) (rest := []) cal_X1_upOf ins_X1_upOf sel_X1_upOf ly73 (by decide) rfl (xX1_upOf x (μ15 242 l4_14.toNat) l7_28 _ _ r22 c35 h) rfl ml_X7_126 (xRoom (Nat.le_of_ble_eq_true rfl)) (Nat.le_of_ble_eq_true rfl) dX7_measure_107 (fun r64 μ62 i65 n63 h => ?_)
                have h := h i65 n63
                refine x_goto (tgt := 127) dX7_measure_110 (by decide) ?_
                exact x_sub [0, 1, 2, 3, 4, 5, 6] rfl (xX7_measure_b127 x p1 p1n p2 l3_27 l4_14 (μ15 242 l4_14.toNat) r25 l7_28 r64 μ62 Q J39 J75 hp1 hp2 hJ39 hJ75 h)
      · have h := h.2 k5
        exact x_vret h rfl dX7_measure_22
set_option maxRecDepth 100000 in
set_option maxHeartbeats 4000000 in
theorem xX7_farOf (x : xX) (p1 : Int) (p2 : Int) (μ : xM) (Q : Int → xM → Prop) (hp1 : xIn p1) (hp2 : xIn p2) (h : tX7_farOf p1 p2 μ Q) : xMet x 1 yX7_farOf cX7_farOf 3 (some .int) [.ref (x.2.2.1 + 236), iV p1, iV p2] μ (xQi x Q) := by
  refine xMet_of (by decide +kernel) (Nat.le_of_ble_eq_true rfl) ?_
  show xW x (xRm 1, RX7, cX7_farOf, 3, (some .int), fun _ _ => True) (xQi x Q) 0 [(0, .ref (x.2.2.1 + 236)), (1, iV p1), (2, iV p2)] [] μ
  refine x_ran (fun n0 => ?_)
  have h := h n0 hp1 hp2
  refine x_iload_n 1 rfl dX7_farOf_0 ?_
  refine x_iflt (tgt := 30) hp1  dX7_farOf_1 (by decide) (fun k1 => ?_) (fun k1 => ?_)
  · have h := h.1 k1
    refine x_iconst dX7_farOf_30 ?_
    exact x_iret h ⟨by decide, by decide⟩ rfl dX7_farOf_31
  · have h := h.2 k1
    refine x_iload_n 1 rfl dX7_farOf_4 ?_
    refine x_iconst dX7_farOf_5 ?_
    refine x_icmpge (tgt := 30) hp1 ⟨by decide, by decide⟩ dX7_farOf_6 (by decide) (fun k2 => ?_) (fun k2 => ?_)
    · have h := h.1 k2
      refine x_iconst dX7_farOf_30 ?_
      exact x_iret h ⟨by decide, by decide⟩ rfl dX7_farOf_31
    · have h := h.2 k2
      refine x_iload_n 2 rfl dX7_farOf_9 ?_
      refine x_iflt (tgt := 30) hp2  dX7_farOf_10 (by decide) (fun k3 => ?_) (fun k3 => ?_)
      · have h := h.1 k3
        refine x_iconst dX7_farOf_30 ?_
        exact x_iret h ⟨by decide, by decide⟩ rfl dX7_farOf_31
      · have h := h.2 k3
        refine x_iload_n 2 rfl dX7_farOf_13 ?_
        refine x_bipush dX7_farOf_14 (by decide) ?_
        refine x_icmpge (tgt := 30) hp2 ⟨by decide, by decide⟩ dX7_farOf_16 (by decide) (fun k4 => ?_) (fun k4 => ?_)
        · have h := h.1 k4
          refine x_iconst dX7_farOf_30 ?_
          exact x_iret h ⟨by decide, by decide⟩ rfl dX7_farOf_31
        · have h := h.2 k4
          refine x_aload_n 0 rfl dX7_farOf_19 ?_
          refine x_getR (j := 3) (r := 238) ly236 (by decide) rfl rfl (by decide) inT7 fl_X7_17 dX7_farOf_20 ?_
          refine x_iload_n 1 rfl dX7_farOf_23 ?_
          obtain ⟨c5, h⟩ := h
          refine x_aaldI ly238 c5.1 c5.2 hp1 (by decide) dX7_farOf_24 ?_
          refine x_iload_n 2 rfl dX7_farOf_25 ?_
          obtain ⟨c6, h⟩ := h
          refine x_iald (lr238 p1.toNat (by omega)) c6.1 c6.2 hp2 (by omega) dX7_farOf_26 (fun r7 => ?_)
          refine x_goto (tgt := 31) dX7_farOf_27 (by decide) ?_
          exact x_iret h r7 rfl dX7_farOf_31
set_option maxRecDepth 100000 in
set_option maxHeartbeats 4000000 in
theorem xX7_awayFrom (x : xX) (p1 : Int) (p2 : Int) (μ : xM) (Q : Int → xM → Prop) (hp1 : xIn p1) (hp2 : xIn p2) (h : tX7_awayFrom p1 p2 μ Q) : xMet x 4 yX7_awayFrom cX7_awayFrom 6 (some .int) [.ref (x.2.2.1 + 236), iV p1, iV p2] μ (xQi x Q) := by
  refine xMet_of (by decide +kernel) (Nat.le_of_ble_eq_true rfl) ?_
  show xW x (xRm 4, RX7, cX7_awayFrom, 6, (some .int), fun _ _ => True) (xQi x Q) 0 [(0, .ref (x.2.2.1 + 236)), (1, iV p1), (2, iV p2)] [] μ
  refine x_ran (fun n0 => ?_)
  have h := h n0 hp1 hp2
  refine x_iconst dX7_awayFrom_0 ?_
  refine x_istore_n [(3, iV 0), (0, .ref (x.2.2.1 + 236)), (1, iV p1), (2, iV p2)] dX7_awayFrom_1 (show 3 < 6 by decide) rfl ?_
  refine x_iconst dX7_awayFrom_2 ?_
  refine x_istore [(4, iV 0), (3, iV 0), (0, .ref (x.2.2.1 + 236)), (1, iV p1), (2, iV p2)] dX7_awayFrom_3 (show 4 < 6 by decide) rfl ?_
  refine x_sub [2, 3, 4, 1, 0] rfl ?_
  refine x_loop2 (fun l3_1 l4_2 => [(0, .ref (x.2.2.1 + 236)), (1, iV p1), (2, iV p2), (3, iV l3_1), (4, iV l4_2)]) h (fun J5 l3_1 l4_2 μ3 hJ5 h n4 => ?_)
  refine x_iload 4 rfl dX7_awayFrom_5 ?_
  refine x_aload_n 0 rfl dX7_awayFrom_7 ?_
  refine x_getR (j := 0) (r := 39) ly236 (by decide) rfl rfl (by decide) inT7 fl_X7_35 dX7_awayFrom_8 ?_
  refine x_getI (j := 0) ly39 (by decide) rfl rfl (by decide) inT2 fl_X7_106 dX7_awayFrom_11 (fun r5 => ?_)
  obtain ⟨c6, h⟩ := h
  refine x_icmpge (tgt := 72) c6 r5 dX7_awayFrom_14 (by decide) (fun k7 => ?_) (fun k7 => ?_)
  · have h := h.1 k7
    refine x_iload_n 3 rfl dX7_awayFrom_72 ?_
    obtain ⟨c8, h⟩ := h
    exact x_iret h c8 rfl dX7_awayFrom_73
  · have h := h.2 k7
    refine x_iload 4 rfl dX7_awayFrom_17 ?_
    refine x_iconst dX7_awayFrom_19 ?_
    refine x_icmpge (tgt := 72) c6 ⟨by decide, by decide⟩ dX7_awayFrom_20 (by decide) (fun k9 => ?_) (fun k9 => ?_)
    · have h := h.1 k9
      refine x_iload_n 3 rfl dX7_awayFrom_72 ?_
      obtain ⟨c10, h⟩ := h
      exact x_iret h c10 rfl dX7_awayFrom_73
    · have h := h.2 k9
      refine x_aload_n 0 rfl dX7_awayFrom_23 ?_
      refine x_aload_n 0 rfl dX7_awayFrom_24 ?_
      refine x_getR (j := 3) (r := 238) ly236 (by decide) rfl rfl (by decide) inT7 fl_X7_17 dX7_awayFrom_25 ?_
      refine x_iload 4 rfl dX7_awayFrom_28 ?_
      obtain ⟨c11, h⟩ := h
      refine x_aaldI ly238 c11.1 c11.2 (xIb (n := 3) c11 (by decide)) (by decide) dX7_awayFrom_30 ?_
      refine x_iload_n 2 rfl dX7_awayFrom_31 ?_
      refine x_iload 4 rfl dX7_awayFrom_32 ?_
      refine x_callSi (As := [iV p2, iV l4_2]) (rest := [.ref (x.2.2.1 + (239 + l4_2.toNat)), .ref (x.2.2.1 + 236)]) cal_X7_kindAt sta_X7_kindAt (xX7_kindAt x p2 l4_2 _ _ hp2 c6 h) rfl ml_X7_109 (xRoom (Nat.le_of_ble_eq_true rfl)) (Nat.le_of_ble_eq_true rfl) dX7_awayFrom_34 (fun r14 μ12 i15 n13 h => ?_)
      have h := h i15 n13
      refine x_callVv (As := [.ref (x.2.2.1 + (239 + l4_2.toNat)), iV r14]) (rest := []) cal_X7_measure ins_X7_measure sel_X7_measure ly236 (by decide) rfl (xX7_measure x (239 + l4_2.toNat) 25 r14 _ _ ⟨(lr238 l4_2.toNat (by omega)), (by omega), (by decide)⟩ i15 h) rfl ml_X7_112 (xRoom (Nat.le_of_ble_eq_true rfl)) (Nat.le_of_ble_eq_true rfl) dX7_awayFrom_37 (fun μ16 n17 h => ?_)
      have h := h n17
      refine x_aload_n 0 rfl dX7_awayFrom_40 ?_
      refine x_iload 4 rfl dX7_awayFrom_41 ?_
      refine x_iload_n 1 rfl dX7_awayFrom_43 ?_
      refine x_iload 4 rfl dX7_awayFrom_44 ?_
      refine x_callSi (As := [iV p1, iV l4_2]) (rest := [iV l4_2, .ref (x.2.2.1 + 236)]) cal_X7_kindAt sta_X7_kindAt (xX7_kindAt x p1 l4_2 _ _ hp1 c6 h) rfl ml_X7_109 (xRoom (Nat.le_of_ble_eq_true rfl)) (Nat.le_of_ble_eq_true rfl) dX7_awayFrom_46 (fun r20 μ18 i21 n19 h => ?_)
      have h := h i21 n19
      refine x_callVi (As := [iV l4_2, iV r20]) (rest := []) cal_X7_farOf ins_X7_farOf sel_X7_farOf ly236 (by decide) rfl (xX7_farOf x l4_2 r20 _ _ c6 i21 h) rfl ml_X7_115 (xRoom (Nat.le_of_ble_eq_true rfl)) (Nat.le_of_ble_eq_true rfl) dX7_awayFrom_49 (fun r24 μ22 i25 n23 h => ?_)
      have h := h i25 n23
      refine x_istore [(5, iV r24), (0, .ref (x.2.2.1 + 236)), (1, iV p1), (2, iV p2), (3, iV l3_1), (4, iV l4_2)] dX7_awayFrom_52 (show 5 < 6 by decide) rfl ?_
      refine x_iload 0 rfl dX7_awayFrom_54 ?_
      refine x_ifge (tgt := 61) i25  dX7_awayFrom_56 (by decide) (fun k26 => ?_) (fun k26 => ?_)
      · have h := h.1 k26
        refine x_iload_n 4 rfl dX7_awayFrom_61 ?_
        refine x_iload 0 rfl dX7_awayFrom_62 ?_
        refine x_iadd dX7_awayFrom_64 ?_
        refine x_istore_n [(3, iV (l3_1 + r24)), (5, iV r24), (0, .ref (x.2.2.1 + 236)), (1, iV p1), (2, iV p2), (4, iV l4_2)] dX7_awayFrom_65 (show 3 < 6 by decide) rfl ?_
        refine x_iinc 5 rfl [(4, iV (l4_2 + 1)), (3, iV (l3_1 + r24)), (5, iV r24), (0, .ref (x.2.2.1 + 236)), (1, iV p1), (2, iV p2)] dX7_awayFrom_66 (show 4 < 6 by decide) rfl ?_
        refine x_goto (tgt := 5) dX7_awayFrom_69 (by decide) ?_
        exact x_sub [3, 4, 5, 1, 0] rfl (hJ5 _ _ _ h)
      · have h := h.2 k26
        refine x_iconst dX7_awayFrom_59 ?_
        exact x_iret h ⟨by decide, by decide⟩ rfl dX7_awayFrom_60
set_option maxRecDepth 100000 in
set_option maxHeartbeats 4000000 in
theorem xX7_standingAt (x : xX) (p1 : Int) (μ : xM) (Q : Int → xM → Prop) (hp1 : xIn p1) (h : tX7_standingAt p1 μ Q) : xMet x 3 yX7_standingAt cX7_standingAt 2 (some .int) [.ref (x.2.2.1 + 236), iV p1] μ (xQi x Q) := by
  refine xMet_of (by decide +kernel) (Nat.le_of_ble_eq_true rfl) ?_
  show xW x (xRm 3, RX7, cX7_standingAt, 2, (some .int), fun _ _ => True) (xQi x Q) 0 [(0, .ref (x.2.2.1 + 236)), (1, iV p1)] [] μ
  refine x_ran (fun n0 => ?_)
  have h := h n0 hp1
  refine x_aload_n 0 rfl dX7_standingAt_0 ?_
  refine x_getI (j := 11) ly236 (by decide) rfl rfl (by decide) inT7 fl_X7_98 dX7_standingAt_1 (fun r1 => ?_)
  refine x_aload_n 0 rfl dX7_standingAt_4 ?_
  refine x_getR (j := 0) (r := 39) ly236 (by decide) rfl rfl (by decide) inT7 fl_X7_35 dX7_standingAt_5 ?_
  refine x_iload_n 1 rfl dX7_standingAt_8 ?_
  refine x_iconst dX7_standingAt_9 ?_
  refine x_callSi (As := [iV p1, iV 0]) (rest := [.ref (x.2.2.1 + 39), iV (μ 236 11)]) cal_X7_kindAt sta_X7_kindAt (xX7_kindAt x p1 0 _ _ hp1 ⟨by decide, by decide⟩ h) rfl ml_X7_109 (xRoom (Nat.le_of_ble_eq_true rfl)) (Nat.le_of_ble_eq_true rfl) dX7_standingAt_10 (fun r4 μ2 i5 n3 h => ?_)
  have h := h i5 n3
  refine x_callVi (As := [iV r4]) (rest := [iV (μ 236 11)]) cal_X2_lengthOf ins_X2_lengthOf sel_X2_lengthOf ly39 (by decide) rfl (xX2_lengthOf x 39 r4 _ _ isHouse_39 i5 h) rfl ml_X7_143 (xRoom (Nat.le_of_ble_eq_true rfl)) (Nat.le_of_ble_eq_true rfl) dX7_standingAt_13 (fun r8 μ6 i9 n7 h => ?_)
  have h := h i9 n7
  refine x_isub dX7_standingAt_16 ?_
  refine x_aload_n 0 rfl dX7_standingAt_17 ?_
  refine x_getR (j := 0) (r := 39) ly236 (by decide) rfl rfl (by decide) inT7 fl_X7_35 dX7_standingAt_18 ?_
  refine x_iload_n 1 rfl dX7_standingAt_21 ?_
  refine x_iconst dX7_standingAt_22 ?_
  refine x_callSi (As := [iV p1, iV 1]) (rest := [.ref (x.2.2.1 + 39), iV ((μ 236 11) - r8)]) cal_X7_kindAt sta_X7_kindAt (xX7_kindAt x p1 1 _ _ hp1 ⟨by decide, by decide⟩ h) rfl ml_X7_109 (xRoom (Nat.le_of_ble_eq_true rfl)) (Nat.le_of_ble_eq_true rfl) dX7_standingAt_23 (fun r12 μ10 i13 n11 h => ?_)
  have h := h i13 n11
  refine x_callVi (As := [iV r12]) (rest := [iV ((μ 236 11) - r8)]) cal_X2_lengthOf ins_X2_lengthOf sel_X2_lengthOf ly39 (by decide) rfl (xX2_lengthOf x 39 r12 _ _ isHouse_39 i13 h) rfl ml_X7_143 (xRoom (Nat.le_of_ble_eq_true rfl)) (Nat.le_of_ble_eq_true rfl) dX7_standingAt_26 (fun r16 μ14 i17 n15 h => ?_)
  have h := h i17 n15
  refine x_isub dX7_standingAt_29 ?_
  refine x_aload_n 0 rfl dX7_standingAt_30 ?_
  refine x_getR (j := 0) (r := 39) ly236 (by decide) rfl rfl (by decide) inT7 fl_X7_35 dX7_standingAt_31 ?_
  refine x_iload_n 1 rfl dX7_standingAt_34 ?_
  refine x_iconst dX7_standingAt_35 ?_
  refine x_callSi (As := [iV p1, iV 2]) (rest := [.ref (x.2.2.1 + 39), iV (((μ 236 11) - r8) - r16)]) cal_X7_kindAt sta_X7_kindAt (xX7_kindAt x p1 2 _ _ hp1 ⟨by decide, by decide⟩ h) rfl ml_X7_109 (xRoom (Nat.le_of_ble_eq_true rfl)) (Nat.le_of_ble_eq_true rfl) dX7_standingAt_36 (fun r20 μ18 i21 n19 h => ?_)
  have h := h i21 n19
  refine x_callVi (As := [iV r20]) (rest := [iV (((μ 236 11) - r8) - r16)]) cal_X2_lengthOf ins_X2_lengthOf sel_X2_lengthOf ly39 (by decide) rfl (xX2_lengthOf x 39 r20 _ _ isHouse_39 i21 h) rfl ml_X7_143 (xRoom (Nat.le_of_ble_eq_true rfl)) (Nat.le_of_ble_eq_true rfl) dX7_standingAt_39 (fun r24 μ22 i25 n23 h => ?_)
  have h := h i25 n23
  refine x_isub dX7_standingAt_42 ?_
  obtain ⟨c26, h⟩ := h
  exact x_iret h c26 rfl dX7_standingAt_43
set_option maxRecDepth 100000 in
set_option maxHeartbeats 4000000 in
theorem xX7_shift (x : xX) (p1 : Int) (p2 : Int) (μ : xM) (Q : xM → Prop) (hp1 : xIn p1) (hp2 : xIn p2) (h : tX7_shift p1 p2 μ Q) : xMet x 3 yX7_shift cX7_shift 6 none [.ref (x.2.2.1 + 236), iV p1, iV p2] μ (xQv x Q) := by
  refine xMet_of (by decide +kernel) (Nat.le_of_ble_eq_true rfl) ?_
  show xW x (xRm 3, RX7, cX7_shift, 6, none, fun _ _ => True) (xQv x Q) 0 [(0, .ref (x.2.2.1 + 236)), (1, iV p1), (2, iV p2)] [] μ
  refine x_ran (fun n0 => ?_)
  have h := h n0 hp1 hp2
  refine x_iconst dX7_shift_0 ?_
  refine x_istore_n [(3, iV 0), (0, .ref (x.2.2.1 + 236)), (1, iV p1), (2, iV p2)] dX7_shift_1 (show 3 < 6 by decide) rfl ?_
  refine x_sub [1, 2, 3, 0] rfl ?_
  refine x_loop1 (fun l3_1 => [(0, .ref (x.2.2.1 + 236)), (1, iV p1), (2, iV p2), (3, iV l3_1)]) h (fun J2 l3_1 μ2 hJ2 h n3 => ?_)
  refine x_iload_n 3 rfl dX7_shift_2 ?_
  refine x_iconst dX7_shift_3 ?_
  obtain ⟨c4, h⟩ := h
  refine x_icmpge (tgt := 76) c4 ⟨by decide, by decide⟩ dX7_shift_4 (by decide) (fun k5 => ?_) (fun k5 => ?_)
  · have h := h.1 k5
    exact x_vret h rfl dX7_shift_76
  · have h := h.2 k5
    refine x_aload_n 0 rfl dX7_shift_7 ?_
    refine x_getR (j := 0) (r := 39) ly236 (by decide) rfl rfl (by decide) inT7 fl_X7_35 dX7_shift_8 ?_
    refine x_iload_n 1 rfl dX7_shift_11 ?_
    refine x_iload_n 3 rfl dX7_shift_12 ?_
    refine x_callSi (As := [iV p1, iV l3_1]) (rest := [.ref (x.2.2.1 + 39)]) cal_X7_kindAt sta_X7_kindAt (xX7_kindAt x p1 l3_1 _ _ hp1 c4 h) rfl ml_X7_109 (xRoom (Nat.le_of_ble_eq_true rfl)) (Nat.le_of_ble_eq_true rfl) dX7_shift_13 (fun r8 μ6 i9 n7 h => ?_)
    have h := h i9 n7
    refine x_callVr (As := [iV r8]) (rest := []) cal_X2_glyphsOf ins_X2_glyphsOf sel_X2_glyphsOf ly39 (by decide) rfl (xX2_glyphsOf x 39 r8 _ _ isHouse_39 i9 h) rfl ml_X7_132 (xRoom (Nat.le_of_ble_eq_true rfl)) (Nat.le_of_ble_eq_true rfl) dX7_shift_16 (fun r12 μ10 n11 h => ?_)
    obtain ⟨g13, h⟩ := h n11
    refine x_astore [(4, .ref (x.2.2.1 + r12)), (0, .ref (x.2.2.1 + 236)), (1, iV p1), (2, iV p2), (3, iV l3_1)] dX7_shift_19 (show 4 < 6 by decide) rfl ?_
    refine x_iconst dX7_shift_21 ?_
    refine x_istore [(5, iV 0), (4, .ref (x.2.2.1 + r12)), (0, .ref (x.2.2.1 + 236)), (1, iV p1), (2, iV p2), (3, iV l3_1)] dX7_shift_22 (show 5 < 6 by decide) rfl ?_
    refine x_sub [2, 3, 4, 5, 1, 0] rfl ?_
    refine x_loop1 (fun l5_14 => [(0, .ref (x.2.2.1 + 236)), (1, iV p1), (2, iV p2), (3, iV l3_1), (4, .ref (x.2.2.1 + r12)), (5, iV l5_14)]) h (fun J24 l5_14 μ15 hJ24 h n16 => ?_)
    refine x_iload 5 rfl dX7_shift_24 ?_
    refine x_aload 4 rfl dX7_shift_26 ?_
    refine x_alen g13.1 g13.2 dX7_shift_28 ?_
    obtain ⟨c17, h⟩ := h
    refine x_icmpge (tgt := 70) c17 ⟨by decide, by decide⟩ dX7_shift_29 (by decide) (fun k18 => ?_) (fun k18 => ?_)
    · have h := h.1 k18
      refine x_iinc 3 rfl [(3, iV (l3_1 + 1)), (0, .ref (x.2.2.1 + 236)), (1, iV p1), (2, iV p2), (4, .ref (x.2.2.1 + r12)), (5, iV l5_14)] dX7_shift_70 (show 3 < 6 by decide) rfl ?_
      refine x_goto (tgt := 2) dX7_shift_73 (by decide) ?_
      exact x_sub [1, 2, 3, 0] rfl (hJ2 _ _ h)
    · have h := h.2 k18
      refine x_aload 4 rfl dX7_shift_32 ?_
      refine x_iload 5 rfl dX7_shift_34 ?_
      obtain ⟨c19, h⟩ := h
      refine x_iald g13.1 c19.1 c19.2 (xIb (n := 6) c19 (by decide)) g13.2 dX7_shift_36 (fun r20 => ?_)
      refine x_iflt (tgt := 70) r20  dX7_shift_37 (by decide) (fun k21 => ?_) (fun k21 => ?_)
      · have h := h.1 k21
        refine x_iinc 3 rfl [(3, iV (l3_1 + 1)), (0, .ref (x.2.2.1 + 236)), (1, iV p1), (2, iV p2), (4, .ref (x.2.2.1 + r12)), (5, iV l5_14)] dX7_shift_70 (show 3 < 6 by decide) rfl ?_
        refine x_goto (tgt := 2) dX7_shift_73 (by decide) ?_
        exact x_sub [1, 2, 3, 0] rfl (hJ2 _ _ h)
      · have h := h.2 k21
        refine x_aload 4 rfl dX7_shift_40 ?_
        refine x_iload 5 rfl dX7_shift_42 ?_
        refine x_iald g13.1 c19.1 c19.2 (xIb (n := 6) c19 (by decide)) g13.2 dX7_shift_44 (fun r22 => ?_)
        refine x_bipush dX7_shift_45 (by decide) ?_
        refine x_icmpge (tgt := 70) r22 ⟨by decide, by decide⟩ dX7_shift_47 (by decide) (fun k23 => ?_) (fun k23 => ?_)
        · have h := h.1 k23
          refine x_iinc 3 rfl [(3, iV (l3_1 + 1)), (0, .ref (x.2.2.1 + 236)), (1, iV p1), (2, iV p2), (4, .ref (x.2.2.1 + r12)), (5, iV l5_14)] dX7_shift_70 (show 3 < 6 by decide) rfl ?_
          refine x_goto (tgt := 2) dX7_shift_73 (by decide) ?_
          exact x_sub [1, 2, 3, 0] rfl (hJ2 _ _ h)
        · have h := h.2 k23
          refine x_aload_n 0 rfl dX7_shift_50 ?_
          refine x_getR (j := 2) (r := 237) ly236 (by decide) rfl rfl (by decide) inT7 fl_X7_9 dX7_shift_51 ?_
          refine x_aload 4 rfl dX7_shift_54 ?_
          refine x_iload 5 rfl dX7_shift_56 ?_
          refine x_iald g13.1 c19.1 c19.2 (xIb (n := 6) c19 (by decide)) g13.2 dX7_shift_58 (fun r24 => ?_)
          refine x_dup2 rfl rfl dX7_shift_59 ?_
          obtain ⟨c25, h⟩ := h
          refine x_iald ly237 c25.1 c25.2 r24 (by decide) dX7_shift_60 (fun r26 => ?_)
          refine x_iload_n 2 rfl dX7_shift_61 ?_
          refine x_iadd dX7_shift_62 ?_
          obtain ⟨c27, h⟩ := h
          refine x_iast ly237 c25.1 c25.2 r24 c27 (by decide) dX7_shift_63 (fun μ28 e30 n29 => ?_)
          have h := h μ28 e30 n29
          refine x_iinc 5 rfl [(5, iV (l5_14 + 1)), (0, .ref (x.2.2.1 + 236)), (1, iV p1), (2, iV p2), (3, iV l3_1), (4, .ref (x.2.2.1 + r12))] dX7_shift_64 (show 5 < 6 by decide) rfl ?_
          refine x_goto (tgt := 24) dX7_shift_67 (by decide) ?_
          exact x_sub [1, 2, 3, 4, 5, 0] rfl (hJ24 _ _ h)
set_option maxRecDepth 100000 in
set_option maxHeartbeats 4000000 in
theorem xX7_canBe_b17 (x : xX) (p1 : Int) (s0 : Int) (μ : xM) (Q : Int → xM → Prop)  (hp1 : xIn p1)  (h : tX7_canBe_b17 p1 s0 μ Q ) : xW x (xRm 4, RX7, cX7_canBe, 4, (some .boolean), fun _ _ => True) (xQz x Q) 17 [(0, .ref (x.2.2.1 + 236)), (1, iV p1)] [iV s0] μ := by
  refine x_ran (fun n0 => ?_)
  have h := h n0
  refine x_istore_n [(2, iV s0), (0, .ref (x.2.2.1 + 236)), (1, iV p1)] dX7_canBe_17 (show 2 < 4 by decide) rfl ?_
  refine x_aload_n 1 rfl dX7_canBe_18 ?_
  refine x_iload_n 2 rfl dX7_canBe_19 ?_
  refine x_iconst dX7_canBe_20 ?_
  refine x_callVv (As := [iV p1, iV (-1)]) (rest := []) cal_X7_shift ins_X7_shift sel_X7_shift ly236 (by decide) rfl (xX7_shift x p1 (-1) _ _ hp1 ⟨by decide, by decide⟩ h) rfl ml_X7_139 (xRoom (Nat.le_of_ble_eq_true rfl)) (Nat.le_of_ble_eq_true rfl) dX7_canBe_21 (fun μ7 n8 h => ?_)
  have h := h n8
  refine x_iconst dX7_canBe_24 ?_
  refine x_istore_n [(3, iV 0), (2, iV s0), (0, .ref (x.2.2.1 + 236)), (1, iV p1)] dX7_canBe_25 (show 3 < 4 by decide) rfl ?_
  refine x_sub [2, 3, 1, 0] rfl ?_
  refine x_loop2 (fun l2_9 l3_10 => [(0, .ref (x.2.2.1 + 236)), (1, iV p1), (2, iV l2_9), (3, iV l3_10)]) h (fun J26 l2_9 l3_10 μ11 hJ26 h n12 => ?_)
  refine x_iload_n 3 rfl dX7_canBe_26 ?_
  refine x_bipush dX7_canBe_27 (by decide) ?_
  obtain ⟨c13, h⟩ := h
  refine x_icmpge (tgt := 55) c13 ⟨by decide, by decide⟩ dX7_canBe_29 (by decide) (fun k14 => ?_) (fun k14 => ?_)
  · have h := h.1 k14
    refine x_aload_n 0 rfl dX7_canBe_55 ?_
    refine x_iload_n 1 rfl dX7_canBe_56 ?_
    refine x_iconst dX7_canBe_57 ?_
    refine x_callVv (As := [iV p1, iV 1]) (rest := []) cal_X7_shift ins_X7_shift sel_X7_shift ly236 (by decide) rfl (xX7_shift x p1 1 _ _ hp1 ⟨by decide, by decide⟩ h) rfl ml_X7_139 (xRoom (Nat.le_of_ble_eq_true rfl)) (Nat.le_of_ble_eq_true rfl) dX7_canBe_58 (fun μ15 n16 h => ?_)
    have h := h n16
    refine x_iload_n 2 rfl dX7_canBe_61 ?_
    obtain ⟨c17, h⟩ := h
    exact x_zret h c17 rfl dX7_canBe_62
  · have h := h.2 k14
    refine x_iload_n 2 rfl dX7_canBe_32 ?_
    refine x_aload_n 0 rfl dX7_canBe_33 ?_
    refine x_getR (j := 2) (r := 237) ly236 (by decide) rfl rfl (by decide) inT7 fl_X7_9 dX7_canBe_34 ?_
    refine x_iload_n 3 rfl dX7_canBe_37 ?_
    obtain ⟨c18, h⟩ := h
    refine x_iald ly237 c18.1 c18.2 (xIb (n := 26) c18 (by decide)) (by decide) dX7_canBe_38 (fun r19 => ?_)
    refine x_iflt (tgt := 46) r19  dX7_canBe_39 (by decide) (fun k20 => ?_) (fun k20 => ?_)
    · have h := h.1 k20
      refine x_iconst dX7_canBe_46 ?_
      refine x_iand dX7_canBe_47 ?_
      refine x_istore_n [(2, iV (xAnd l2_9 0)), (0, .ref (x.2.2.1 + 236)), (1, iV p1), (3, iV l3_10)] dX7_canBe_48 (show 2 < 4 by decide) rfl ?_
      refine x_iinc 3 rfl [(3, iV (l3_10 + 1)), (2, iV (xAnd l2_9 0)), (0, .ref (x.2.2.1 + 236)), (1, iV p1)] dX7_canBe_49 (show 3 < 4 by decide) rfl ?_
      refine x_goto (tgt := 26) dX7_canBe_52 (by decide) ?_
      exact x_sub [2, 3, 1, 0] rfl (hJ26 _ _ _ h)
    · have h := h.2 k20
      refine x_iconst dX7_canBe_42 ?_
      refine x_goto (tgt := 47) dX7_canBe_43 (by decide) ?_
      refine x_iand dX7_canBe_47 ?_
      refine x_istore_n [(2, iV (xAnd l2_9 1)), (0, .ref (x.2.2.1 + 236)), (1, iV p1), (3, iV l3_10)] dX7_canBe_48 (show 2 < 4 by decide) rfl ?_
      refine x_iinc 3 rfl [(3, iV (l3_10 + 1)), (2, iV (xAnd l2_9 1)), (0, .ref (x.2.2.1 + 236)), (1, iV p1)] dX7_canBe_49 (show 3 < 4 by decide) rfl ?_
      refine x_goto (tgt := 26) dX7_canBe_52 (by decide) ?_
      exact x_sub [2, 3, 1, 0] rfl (hJ26 _ _ _ h)
set_option maxRecDepth 100000 in
set_option maxHeartbeats 4000000 in
theorem xX7_canBe (x : xX) (p1 : Int) (μ : xM) (Q : Int → xM → Prop) (hp1 : xIn p1) (h : tX7_canBe p1 μ Q) : xMet x 4 yX7_canBe cX7_canBe 4 (some .boolean) [.ref (x.2.2.1 + 236), iV p1] μ (xQz x Q) := by
  refine xMet_of (by decide +kernel) (Nat.le_of_ble_eq_true rfl) ?_
  show xW x (xRm 4, RX7, cX7_canBe, 4, (some .boolean), fun _ _ => True) (xQz x Q) 0 [(0, .ref (x.2.2.1 + 236)), (1, iV p1)] [] μ
  refine x_ran (fun n0 => ?_)
  have h := h n0 hp1
  refine x_aload_n 0 rfl dX7_canBe_0 ?_
  refine x_iload_n 1 rfl dX7_canBe_1 ?_
  refine x_callVi (As := [iV p1]) (rest := []) cal_X7_standingAt ins_X7_standingAt sel_X7_standingAt ly236 (by decide) rfl (xX7_standingAt x p1 _ _ hp1 h) rfl ml_X7_136 (xRoom (Nat.le_of_ble_eq_true rfl)) (Nat.le_of_ble_eq_true rfl) dX7_canBe_2 (fun r3 μ1 i4 n2 h => ?_)
  have h := h i4 n2
  refine x_aload_n 0 rfl dX7_canBe_5 ?_
  refine x_getI (j := 12) ly236 (by decide) rfl rfl (by decide) inT7 fl_X7_57 dX7_canBe_6 (fun r5 => ?_)
  refine x_icmpgt (tgt := 16) i4 r5 dX7_canBe_9 (by decide) (fun k6 => ?_) (fun k6 => ?_)
  · have h := h.1 k6
    refine x_iconst dX7_canBe_16 ?_
    exact x_sub [0, 1] rfl (xX7_canBe_b17 x p1 0 μ1 Q  hp1 h)
  · have h := h.2 k6
    refine x_iconst dX7_canBe_12 ?_
    refine x_goto (tgt := 17) dX7_canBe_13 (by decide) ?_
    exact x_sub [0, 1] rfl (xX7_canBe_b17 x p1 1 μ1 Q  hp1 h)
set_option maxRecDepth 100000 in
set_option maxHeartbeats 4000000 in
theorem xX7_isIn (x : xX) (p1 : Nat) (p1n : Nat) (p2 : Int) (μ : xM) (Q : Int → xM → Prop) (hp1 : lay p1 = (1, p1n, []) ∧ p1 < 281 ∧ p1n ≤ 200000) (hp2 : xIn p2) (h : tX7_isIn p1 p1n p2 μ Q) : xMet x 1 yX7_isIn cX7_isIn 2 (some .boolean) [.ref (x.2.2.1 + p1), iV p2] μ (xQz x Q) := by
  refine xMet_of (by decide +kernel) (Nat.le_of_ble_eq_true rfl) ?_
  show xW x (xRm 1, RX7, cX7_isIn, 2, (some .boolean), fun _ _ => True) (xQz x Q) 0 [(0, .ref (x.2.2.1 + p1)), (1, iV p2)] [] μ
  refine x_ran (fun n0 => ?_)
  have h := h n0 hp2
  refine x_iload_n 1 rfl dX7_isIn_0 ?_
  refine x_iflt (tgt := 34) hp2  dX7_isIn_1 (by decide) (fun k1 => ?_) (fun k1 => ?_)
  · have h := h.1 k1
    refine x_iconst dX7_isIn_34 ?_
    exact x_zret h (Or.inl rfl) rfl dX7_isIn_35
  · have h := h.2 k1
    refine x_iload_n 1 rfl dX7_isIn_4 ?_
    refine x_bipush dX7_isIn_5 (by decide) ?_
    refine x_idiv hp2 ⟨by decide, by decide⟩ (by decide) dX7_isIn_7 ?_
    refine x_aload_n 0 rfl dX7_isIn_8 ?_
    refine x_alen hp1.1 hp1.2.1 dX7_isIn_9 ?_
    obtain ⟨c2, h⟩ := h
    refine x_icmpge (tgt := 34) c2 ⟨by omega, by have := hp1.2.2; omega⟩ dX7_isIn_10 (by decide) (fun k3 => ?_) (fun k3 => ?_)
    · have h := h.1 k3
      refine x_iconst dX7_isIn_34 ?_
      exact x_zret h (Or.inl rfl) rfl dX7_isIn_35
    · have h := h.2 k3
      refine x_aload_n 0 rfl dX7_isIn_13 ?_
      refine x_iload_n 1 rfl dX7_isIn_14 ?_
      refine x_bipush dX7_isIn_15 (by decide) ?_
      refine x_idiv hp2 ⟨by decide, by decide⟩ (by decide) dX7_isIn_17 ?_
      obtain ⟨c4, h⟩ := h
      refine x_iald hp1.1 c4.1 c4.2 (xIb (n := p1n) c4 hp1.2.2) hp1.2.1 dX7_isIn_18 (fun r5 => ?_)
      refine x_iload_n 1 rfl dX7_isIn_19 ?_
      refine x_bipush dX7_isIn_20 (by decide) ?_
      refine x_irem hp2 ⟨by decide, by decide⟩ (by decide) dX7_isIn_22 ?_
      refine x_iushr dX7_isIn_23 ?_
      refine x_iconst dX7_isIn_24 ?_
      refine x_iand dX7_isIn_25 ?_
      refine x_iconst dX7_isIn_26 ?_
      refine x_icmpne (tgt := 34) (xAnd_in _ _) ⟨by decide, by decide⟩ dX7_isIn_27 (by decide) (fun k6 => ?_) (fun k6 => ?_)
      · have h := h.1 k6
        refine x_iconst dX7_isIn_34 ?_
        exact x_zret h (Or.inl rfl) rfl dX7_isIn_35
      · have h := h.2 k6
        refine x_iconst dX7_isIn_30 ?_
        refine x_goto (tgt := 35) dX7_isIn_31 (by decide) ?_
        exact x_zret h (Or.inr rfl) rfl dX7_isIn_35
set_option maxRecDepth 100000 in
set_option maxHeartbeats 4000000 in
theorem xX7_putNow (x : xX) (p1 : Int) (μ : xM) (Q : xM → Prop) (hp1 : xIn p1) (h : tX7_putNow p1 μ Q) : xMet x 2 yX7_putNow cX7_putNow 2 none [.ref (x.2.2.1 + 236), iV p1] μ (xQv x Q) := by
  refine xMet_of (by decide +kernel) (Nat.le_of_ble_eq_true rfl) ?_
  show xW x (xRm 2, RX7, cX7_putNow, 2, none, fun _ _ => True) (xQv x Q) 0 [(0, .ref (x.2.2.1 + 236)), (1, iV p1)] [] μ
  refine x_ran (fun n0 => ?_)
  have h := h n0 hp1
  refine x_iload_n 1 rfl dX7_putNow_0 ?_
  refine x_iflt (tgt := 70) hp1  dX7_putNow_1 (by decide) (fun k1 => ?_) (fun k1 => ?_)
  · have h := h.1 k1
    exact x_vret h rfl dX7_putNow_70
  · have h := h.2 k1
    refine x_iload_n 1 rfl dX7_putNow_4 ?_
    refine x_sipush dX7_putNow_5 (by decide) ?_
    refine x_icmpge (tgt := 70) hp1 ⟨by decide, by decide⟩ dX7_putNow_8 (by decide) (fun k2 => ?_) (fun k2 => ?_)
    · have h := h.1 k2
      exact x_vret h rfl dX7_putNow_70
    · have h := h.2 k2
      refine x_aload_n 0 rfl dX7_putNow_11 ?_
      refine x_getI (j := 9) ly236 (by decide) rfl rfl (by decide) inT7 fl_X7_75 dX7_putNow_12 (fun r3 => ?_)
      refine x_sipush dX7_putNow_15 (by decide) ?_
      refine x_icmpge (tgt := 70) r3 ⟨by decide, by decide⟩ dX7_putNow_18 (by decide) (fun k4 => ?_) (fun k4 => ?_)
      · have h := h.1 k4
        exact x_vret h rfl dX7_putNow_70
      · have h := h.2 k4
        refine x_aload_n 0 rfl dX7_putNow_21 ?_
        refine x_getR (j := 7) (r := 245) ly236 (by decide) rfl rfl (by decide) inT7 fl_X7_29 dX7_putNow_22 ?_
        refine x_iload_n 1 rfl dX7_putNow_25 ?_
        refine x_callSz (As := [.ref (x.2.2.1 + 245), iV p1]) (rest := []) cal_X7_isIn sta_X7_isIn (xX7_isIn x 245 489 p1 _ _ ⟨ly245, (by decide), (by decide)⟩ hp1 h) rfl ml_X7_88 (xRoom (Nat.le_of_ble_eq_true rfl)) (Nat.le_of_ble_eq_true rfl) dX7_putNow_26 (fun r7 μ5 i8 n6 h => ?_)
        have h := h i8 n6
        refine x_ifne (tgt := 70) (xIz i8)  dX7_putNow_29 (by decide) (fun k9 => ?_) (fun k9 => ?_)
        · have h := h.1 (xz1 i8 k9)
          exact x_vret h rfl dX7_putNow_70
        · have h := h.2 k9
          refine x_aload_n 0 rfl dX7_putNow_32 ?_
          refine x_getR (j := 7) (r := 245) ly236 (by decide) rfl rfl (by decide) inT7 fl_X7_29 dX7_putNow_33 ?_
          refine x_iload_n 1 rfl dX7_putNow_36 ?_
          refine x_bipush dX7_putNow_37 (by decide) ?_
          refine x_idiv hp1 ⟨by decide, by decide⟩ (by decide) dX7_putNow_39 ?_
          refine x_dup2 rfl rfl dX7_putNow_40 ?_
          obtain ⟨c10, h⟩ := h
          refine x_iald ly245 c10.1 c10.2 (xIb (n := 489) c10 (by decide)) (by decide) dX7_putNow_41 (fun r11 => ?_)
          refine x_iconst dX7_putNow_42 ?_
          refine x_iload_n 1 rfl dX7_putNow_43 ?_
          refine x_bipush dX7_putNow_44 (by decide) ?_
          refine x_irem hp1 ⟨by decide, by decide⟩ (by decide) dX7_putNow_46 ?_
          refine x_ishl dX7_putNow_47 ?_
          refine x_ior dX7_putNow_48 ?_
          refine x_iast ly245 c10.1 c10.2 (xIb (n := 489) c10 (by decide)) (xOr_in _ _) (by decide) dX7_putNow_49 (fun μ12 e14 n13 => ?_)
          have h := h μ12 e14 n13
          refine x_aload_n 0 rfl dX7_putNow_50 ?_
          refine x_getD (j := 5) ly236 (by decide) rfl rfl (by decide) inT7 fl_X7_23 dX7_putNow_51 ?_
          obtain ⟨c15, h⟩ := h
          refine x_aload_n 0 rfl dX7_putNow_54 ?_
          refine x_getI (j := 9) ly236 (by decide) rfl rfl (by decide) inT7 fl_X7_75 dX7_putNow_55 (fun r16 => ?_)
          refine x_iload_n 1 rfl dX7_putNow_58 ?_
          obtain ⟨c17, h⟩ := h
          refine x_iast c15.1 c17.1 c17.2 r16 hp1 c15.2 dX7_putNow_59 (fun μ18 e20 n19 => ?_)
          have h := h μ18 e20 n19
          refine x_aload_n 0 rfl dX7_putNow_60 ?_
          refine x_dup rfl dX7_putNow_61 ?_
          refine x_getI (j := 9) ly236 (by decide) rfl rfl (by decide) inT7 fl_X7_75 dX7_putNow_62 (fun r21 => ?_)
          refine x_iconst dX7_putNow_65 ?_
          refine x_iadd dX7_putNow_66 ?_
          obtain ⟨c22, h⟩ := h
          refine x_putI (j := 9) ly236 (by decide) rfl rfl (by decide) inT7 fl_X7_75 tyX7 tyX7_ok nmX7 rfl c22 (by decide +kernel) dX7_putNow_67 (fun μ23 e25 n24 => ?_)
          have h := h μ23 e25 n24
          exact x_vret h rfl dX7_putNow_70
set_option maxRecDepth 100000 in
set_option maxHeartbeats 4000000 in
theorem xX7_isStanding (x : xX) (p1 : Int) (μ : xM) (Q : Int → xM → Prop) (hp1 : xIn p1) (h : tX7_isStanding p1 μ Q) : xMet x 1 yX7_isStanding cX7_isStanding 2 (some .boolean) [.ref (x.2.2.1 + 236), iV p1] μ (xQz x Q) := by
  refine xMet_of (by decide +kernel) (Nat.le_of_ble_eq_true rfl) ?_
  show xW x (xRm 1, RX7, cX7_isStanding, 2, (some .boolean), fun _ _ => True) (xQz x Q) 0 [(0, .ref (x.2.2.1 + 236)), (1, iV p1)] [] μ
  refine x_ran (fun n0 => ?_)
  have h := h n0 hp1
  refine x_iload_n 1 rfl dX7_isStanding_0 ?_
  refine x_iflt (tgt := 23) hp1  dX7_isStanding_1 (by decide) (fun k1 => ?_) (fun k1 => ?_)
  · have h := h.1 k1
    refine x_iconst dX7_isStanding_23 ?_
    exact x_zret h (Or.inl rfl) rfl dX7_isStanding_24
  · have h := h.2 k1
    refine x_iload_n 1 rfl dX7_isStanding_4 ?_
    refine x_bipush dX7_isStanding_5 (by decide) ?_
    refine x_icmpge (tgt := 23) hp1 ⟨by decide, by decide⟩ dX7_isStanding_7 (by decide) (fun k2 => ?_) (fun k2 => ?_)
    · have h := h.1 k2
      refine x_iconst dX7_isStanding_23 ?_
      exact x_zret h (Or.inl rfl) rfl dX7_isStanding_24
    · have h := h.2 k2
      refine x_aload_n 0 rfl dX7_isStanding_10 ?_
      refine x_getR (j := 2) (r := 237) ly236 (by decide) rfl rfl (by decide) inT7 fl_X7_9 dX7_isStanding_11 ?_
      refine x_iload_n 1 rfl dX7_isStanding_14 ?_
      obtain ⟨c3, h⟩ := h
      refine x_iald ly237 c3.1 c3.2 hp1 (by decide) dX7_isStanding_15 (fun r4 => ?_)
      refine x_ifle (tgt := 23) r4  dX7_isStanding_16 (by decide) (fun k5 => ?_) (fun k5 => ?_)
      · have h := h.1 k5
        refine x_iconst dX7_isStanding_23 ?_
        exact x_zret h (Or.inl rfl) rfl dX7_isStanding_24
      · have h := h.2 k5
        refine x_iconst dX7_isStanding_19 ?_
        refine x_goto (tgt := 24) dX7_isStanding_20 (by decide) ?_
        exact x_zret h (Or.inr rfl) rfl dX7_isStanding_24
set_option maxRecDepth 100000 in
set_option maxHeartbeats 4000000 in
theorem xX7_putLater (x : xX) (p1 : Int) (μ : xM) (Q : xM → Prop) (hp1 : xIn p1) (h : tX7_putLater p1 μ Q) : xMet x 2 yX7_putLater cX7_putLater 2 none [.ref (x.2.2.1 + 236), iV p1] μ (xQv x Q) := by
  refine xMet_of (by decide +kernel) (Nat.le_of_ble_eq_true rfl) ?_
  show xW x (xRm 2, RX7, cX7_putLater, 2, none, fun _ _ => True) (xQv x Q) 0 [(0, .ref (x.2.2.1 + 236)), (1, iV p1)] [] μ
  refine x_ran (fun n0 => ?_)
  have h := h n0 hp1
  refine x_iload_n 1 rfl dX7_putLater_0 ?_
  refine x_iflt (tgt := 81) hp1  dX7_putLater_1 (by decide) (fun k1 => ?_) (fun k1 => ?_)
  · have h := h.1 k1
    exact x_vret h rfl dX7_putLater_81
  · have h := h.2 k1
    refine x_iload_n 1 rfl dX7_putLater_4 ?_
    refine x_sipush dX7_putLater_5 (by decide) ?_
    refine x_icmpge (tgt := 81) hp1 ⟨by decide, by decide⟩ dX7_putLater_8 (by decide) (fun k2 => ?_) (fun k2 => ?_)
    · have h := h.1 k2
      exact x_vret h rfl dX7_putLater_81
    · have h := h.2 k2
      refine x_aload_n 0 rfl dX7_putLater_11 ?_
      refine x_getI (j := 10) ly236 (by decide) rfl rfl (by decide) inT7 fl_X7_78 dX7_putLater_12 (fun r3 => ?_)
      refine x_sipush dX7_putLater_15 (by decide) ?_
      refine x_icmpge (tgt := 81) r3 ⟨by decide, by decide⟩ dX7_putLater_18 (by decide) (fun k4 => ?_) (fun k4 => ?_)
      · have h := h.1 k4
        exact x_vret h rfl dX7_putLater_81
      · have h := h.2 k4
        refine x_aload_n 0 rfl dX7_putLater_21 ?_
        refine x_getR (j := 7) (r := 245) ly236 (by decide) rfl rfl (by decide) inT7 fl_X7_29 dX7_putLater_22 ?_
        refine x_iload_n 1 rfl dX7_putLater_25 ?_
        refine x_callSz (As := [.ref (x.2.2.1 + 245), iV p1]) (rest := []) cal_X7_isIn sta_X7_isIn (xX7_isIn x 245 489 p1 _ _ ⟨ly245, (by decide), (by decide)⟩ hp1 h) rfl ml_X7_88 (xRoom (Nat.le_of_ble_eq_true rfl)) (Nat.le_of_ble_eq_true rfl) dX7_putLater_26 (fun r7 μ5 i8 n6 h => ?_)
        have h := h i8 n6
        refine x_ifne (tgt := 81) (xIz i8)  dX7_putLater_29 (by decide) (fun k9 => ?_) (fun k9 => ?_)
        · have h := h.1 (xz1 i8 k9)
          exact x_vret h rfl dX7_putLater_81
        · have h := h.2 k9
          refine x_aload_n 0 rfl dX7_putLater_32 ?_
          refine x_getR (j := 8) (r := 246) ly236 (by decide) rfl rfl (by decide) inT7 fl_X7_32 dX7_putLater_33 ?_
          refine x_iload_n 1 rfl dX7_putLater_36 ?_
          refine x_callSz (As := [.ref (x.2.2.1 + 246), iV p1]) (rest := []) cal_X7_isIn sta_X7_isIn (xX7_isIn x 246 489 p1 _ _ ⟨ly246, (by decide), (by decide)⟩ hp1 h) rfl ml_X7_88 (xRoom (Nat.le_of_ble_eq_true rfl)) (Nat.le_of_ble_eq_true rfl) dX7_putLater_37 (fun r12 μ10 i13 n11 h => ?_)
          have h := h i13 n11
          refine x_ifne (tgt := 81) (xIz i13)  dX7_putLater_40 (by decide) (fun k14 => ?_) (fun k14 => ?_)
          · have h := h.1 (xz1 i13 k14)
            exact x_vret h rfl dX7_putLater_81
          · have h := h.2 k14
            refine x_aload_n 0 rfl dX7_putLater_43 ?_
            refine x_getR (j := 8) (r := 246) ly236 (by decide) rfl rfl (by decide) inT7 fl_X7_32 dX7_putLater_44 ?_
            refine x_iload_n 1 rfl dX7_putLater_47 ?_
            refine x_bipush dX7_putLater_48 (by decide) ?_
            refine x_idiv hp1 ⟨by decide, by decide⟩ (by decide) dX7_putLater_50 ?_
            refine x_dup2 rfl rfl dX7_putLater_51 ?_
            obtain ⟨c15, h⟩ := h
            refine x_iald ly246 c15.1 c15.2 (xIb (n := 489) c15 (by decide)) (by decide) dX7_putLater_52 (fun r16 => ?_)
            refine x_iconst dX7_putLater_53 ?_
            refine x_iload_n 1 rfl dX7_putLater_54 ?_
            refine x_bipush dX7_putLater_55 (by decide) ?_
            refine x_irem hp1 ⟨by decide, by decide⟩ (by decide) dX7_putLater_57 ?_
            refine x_ishl dX7_putLater_58 ?_
            refine x_ior dX7_putLater_59 ?_
            refine x_iast ly246 c15.1 c15.2 (xIb (n := 489) c15 (by decide)) (xOr_in _ _) (by decide) dX7_putLater_60 (fun μ17 e19 n18 => ?_)
            have h := h μ17 e19 n18
            refine x_aload_n 0 rfl dX7_putLater_61 ?_
            refine x_getD (j := 6) ly236 (by decide) rfl rfl (by decide) inT7 fl_X7_26 dX7_putLater_62 ?_
            obtain ⟨c20, h⟩ := h
            refine x_aload_n 0 rfl dX7_putLater_65 ?_
            refine x_getI (j := 10) ly236 (by decide) rfl rfl (by decide) inT7 fl_X7_78 dX7_putLater_66 (fun r21 => ?_)
            refine x_iload_n 1 rfl dX7_putLater_69 ?_
            obtain ⟨c22, h⟩ := h
            refine x_iast c20.1 c22.1 c22.2 r21 hp1 c20.2 dX7_putLater_70 (fun μ23 e25 n24 => ?_)
            have h := h μ23 e25 n24
            refine x_aload_n 0 rfl dX7_putLater_71 ?_
            refine x_dup rfl dX7_putLater_72 ?_
            refine x_getI (j := 10) ly236 (by decide) rfl rfl (by decide) inT7 fl_X7_78 dX7_putLater_73 (fun r26 => ?_)
            refine x_iconst dX7_putLater_76 ?_
            refine x_iadd dX7_putLater_77 ?_
            obtain ⟨c27, h⟩ := h
            refine x_putI (j := 10) ly236 (by decide) rfl rfl (by decide) inT7 fl_X7_78 tyX7 tyX7_ok nmX7 rfl c27 (by decide +kernel) dX7_putLater_78 (fun μ28 e30 n29 => ?_)
            have h := h μ28 e30 n29
            exact x_vret h rfl dX7_putLater_81
set_option maxRecDepth 100000 in
set_option maxHeartbeats 4000000 in
theorem xX7_step (x : xX) (p1 : Int) (p2 : Int) (p3 : Int) (p4 : Int) (μ : xM) (Q : xM → Prop) (hp1 : xIn p1) (hp2 : xIn p2) (hp3 : xIn p3) (hp4 : xIn p4) (h : tX7_step p1 p2 p3 p4 μ Q) : xMet x 3 yX7_step cX7_step 6 none [.ref (x.2.2.1 + 236), iV p1, iV p2, iV p3, iV p4] μ (xQv x Q) := by
  refine xMet_of (by decide +kernel) (Nat.le_of_ble_eq_true rfl) ?_
  show xW x (xRm 3, RX7, cX7_step, 6, none, fun _ _ => True) (xQv x Q) 0 [(0, .ref (x.2.2.1 + 236)), (1, iV p1), (2, iV p2), (3, iV p3), (4, iV p4)] [] μ
  refine x_ran (fun n0 => ?_)
  have h := h n0 hp1 hp2 hp3 hp4
  refine x_iload_n 1 rfl dX7_step_0 ?_
  refine x_iload 4 rfl dX7_step_1 ?_
  refine x_iload_n 3 rfl dX7_step_3 ?_
  refine x_isub dX7_step_4 ?_
  refine x_iload_n 2 rfl dX7_step_5 ?_
  refine x_callSi (As := [iV p2]) (rest := [iV (p4 - p3), iV p1]) cal_X7_placeOf sta_X7_placeOf (xX7_placeOf x p2 _ _ hp2 h) rfl ml_X7_159 (xRoom (Nat.le_of_ble_eq_true rfl)) (Nat.le_of_ble_eq_true rfl) dX7_step_6 (fun r3 μ1 i4 n2 h => ?_)
  have h := h i4 n2
  refine x_imul dX7_step_9 ?_
  refine x_iadd dX7_step_10 ?_
  refine x_istore [(5, iV (p1 + ((p4 - p3) * r3))), (0, .ref (x.2.2.1 + 236)), (1, iV p1), (2, iV p2), (3, iV p3), (4, iV p4)] dX7_step_11 (show 5 < 6 by decide) rfl ?_
  refine x_aload_n 1 rfl dX7_step_13 ?_
  refine x_iload_n 3 rfl dX7_step_14 ?_
  refine x_iload 5 rfl dX7_step_15 ?_
  refine x_callVi (As := [iV p2, iV p4]) (rest := []) cal_X7_farOf ins_X7_farOf sel_X7_farOf ly236 (by decide) rfl (xX7_farOf x p2 p4 _ _ hp2 hp4 h) rfl ml_X7_115 (xRoom (Nat.le_of_ble_eq_true rfl)) (Nat.le_of_ble_eq_true rfl) dX7_step_17 (fun r7 μ5 i8 n6 h => ?_)
  have h := h i8 n6
  refine x_aload_n 1 rfl dX7_step_20 ?_
  refine x_iload_n 3 rfl dX7_step_21 ?_
  refine x_iload_n 4 rfl dX7_step_22 ?_
  refine x_callVi (As := [iV p2, iV p3]) (rest := [iV r7]) cal_X7_farOf ins_X7_farOf sel_X7_farOf ly236 (by decide) rfl (xX7_farOf x p2 p3 _ _ hp2 hp3 h) rfl ml_X7_115 (xRoom (Nat.le_of_ble_eq_true rfl)) (Nat.le_of_ble_eq_true rfl) dX7_step_23 (fun r11 μ9 i12 n10 h => ?_)
  have h := h i12 n10
  refine x_icmpge (tgt := 38) i8 i12 dX7_step_26 (by decide) (fun k13 => ?_) (fun k13 => ?_)
  · have h := h.1 k13
    refine x_aload_n 1 rfl dX7_step_38 ?_
    refine x_iload 0 rfl dX7_step_39 ?_
    obtain ⟨c14, h⟩ := h
    refine x_callVv (As := [iV (p1 + ((p4 - p3) * r3))]) (rest := []) cal_X7_putLater ins_X7_putLater sel_X7_putLater ly236 (by decide) rfl (xX7_putLater x (p1 + ((p4 - p3) * r3)) _ _ c14 h) rfl ml_X7_162 (xRoom (Nat.le_of_ble_eq_true rfl)) (Nat.le_of_ble_eq_true rfl) dX7_step_41 (fun μ15 n16 h => ?_)
    have h := h n16
    exact x_vret h rfl dX7_step_44
  · have h := h.2 k13
    refine x_aload_n 1 rfl dX7_step_29 ?_
    refine x_iload 0 rfl dX7_step_30 ?_
    obtain ⟨c17, h⟩ := h
    refine x_callVv (As := [iV (p1 + ((p4 - p3) * r3))]) (rest := []) cal_X7_putNow ins_X7_putNow sel_X7_putNow ly236 (by decide) rfl (xX7_putNow x (p1 + ((p4 - p3) * r3)) _ _ c17 h) rfl ml_X7_81 (xRoom (Nat.le_of_ble_eq_true rfl)) (Nat.le_of_ble_eq_true rfl) dX7_step_32 (fun μ18 n19 h => ?_)
    have h := h n19
    refine x_goto (tgt := 44) dX7_step_35 (by decide) ?_
    exact x_vret h rfl dX7_step_44
set_option maxRecDepth 100000 in
set_option maxHeartbeats 4000000 in
theorem xX7_goOn_b102 (x : xX) (p1 : Int) (b2 : Int) (b3 : Int) (b4 : Int) (μ : xM) (Q : xM → Prop) (J14 : Int → xM → Prop) (hp1 : xIn p1)  (hJ14 : ∀ (c3 : Int) (ν : xM), J14 c3 ν → xW x (xRm 4, RX7, cX7_goOn, 6, none, fun _ _ => True) (xQv x Q) 14 [(0, .ref (x.2.2.1 + 236)), (1, iV p1), (2, iV b2), (3, iV c3)] [] ν) (h : tX7_goOn_b102 p1 b2 b3 b4 μ Q J14) : xW x (xRm 4, RX7, cX7_goOn, 6, none, fun _ _ => True) (xQv x Q) 102 [(0, .ref (x.2.2.1 + 236)), (1, iV p1), (2, iV b2), (3, iV b3), (4, iV b4)] [] μ := by
  refine x_ran (fun n0 => ?_)
  have h := h n0
  refine x_iload_n 2 rfl dX7_goOn_102 ?_
  refine x_iconst dX7_goOn_103 ?_
  refine x_iadd dX7_goOn_104 ?_
  refine x_aload_n 0 rfl dX7_goOn_105 ?_
  refine x_getI (j := 12) ly236 (by decide) rfl rfl (by decide) inT7 fl_X7_57 dX7_goOn_106 (fun r22 => ?_)
  obtain ⟨c23, h⟩ := h
  refine x_icmpgt (tgt := 154) c23 r22 dX7_goOn_109 (by decide) (fun k24 => ?_) (fun k24 => ?_)
  · have h := h.1 k24
    refine x_iinc 3 rfl [(3, iV (b3 + 1)), (0, .ref (x.2.2.1 + 236)), (1, iV p1), (2, iV b2), (4, iV b4)] dX7_goOn_154 (show 3 < 6 by decide) rfl ?_
    refine x_goto (tgt := 14) dX7_goOn_157 (by decide) ?_
    exact x_sub [1, 2, 3, 0] rfl (hJ14 _ _ h)
  · have h := h.2 k24
    refine x_iconst dX7_goOn_112 ?_
    refine x_istore [(5, iV 0), (0, .ref (x.2.2.1 + 236)), (1, iV p1), (2, iV b2), (3, iV b3), (4, iV b4)] dX7_goOn_113 (show 5 < 6 by decide) rfl ?_
    refine x_sub [1, 2, 3, 4, 5, 0] rfl ?_
    refine x_loop1 (fun l5_25 => [(0, .ref (x.2.2.1 + 236)), (1, iV p1), (2, iV b2), (3, iV b3), (4, iV b4), (5, iV l5_25)]) h (fun J115 l5_25 μ26 hJ115 h n27 => ?_)
    refine x_iload 5 rfl dX7_goOn_115 ?_
    refine x_aload_n 0 rfl dX7_goOn_117 ?_
    refine x_getR (j := 1) (r := 73) ly236 (by decide) rfl rfl (by decide) inT7 fl_X7_39 dX7_goOn_118 ?_
    refine x_iload 4 rfl dX7_goOn_121 ?_
    obtain ⟨c28, h⟩ := h
    refine x_callVi (As := [iV b4]) (rest := [iV l5_25]) cal_X1_downs ins_X1_downs sel_X1_downs ly73 (by decide) rfl (xX1_downs x b4 _ _ c28 h) rfl ml_X7_123 (xRoom (Nat.le_of_ble_eq_true rfl)) (Nat.le_of_ble_eq_true rfl) dX7_goOn_123 (fun r31 μ29 i32 n30 h => ?_)
    have h := h i32 n30
    obtain ⟨c33, h⟩ := h
    refine x_icmpge (tgt := 154) c33 i32 dX7_goOn_126 (by decide) (fun k34 => ?_) (fun k34 => ?_)
    · have h := h.1 k34
      refine x_iinc 3 rfl [(3, iV (b3 + 1)), (0, .ref (x.2.2.1 + 236)), (1, iV p1), (2, iV b2), (4, iV b4), (5, iV l5_25)] dX7_goOn_154 (show 3 < 6 by decide) rfl ?_
      refine x_goto (tgt := 14) dX7_goOn_157 (by decide) ?_
      exact x_sub [1, 2, 3, 0] rfl (hJ14 _ _ h)
    · have h := h.2 k34
      refine x_aload_n 0 rfl dX7_goOn_129 ?_
      refine x_iload_n 1 rfl dX7_goOn_130 ?_
      refine x_iload_n 3 rfl dX7_goOn_131 ?_
      refine x_iload 4 rfl dX7_goOn_132 ?_
      refine x_aload_n 0 rfl dX7_goOn_134 ?_
      refine x_getR (j := 1) (r := 73) ly236 (by decide) rfl rfl (by decide) inT7 fl_X7_39 dX7_goOn_135 ?_
      refine x_iload 4 rfl dX7_goOn_138 ?_
      refine x_iload 5 rfl dX7_goOn_140 ?_
      refine x_callVi (As := [iV b4, iV l5_25]) (rest := [iV b4, iV b3, iV p1, .ref (x.2.2.1 + 236)]) cal_X1_downOf ins_X1_downOf sel_X1_downOf ly73 (by decide) rfl (xX1_downOf x b4 l5_25 _ _ c28 c33 h) rfl ml_X7_129 (xRoom (Nat.le_of_ble_eq_true rfl)) (Nat.le_of_ble_eq_true rfl) dX7_goOn_142 (fun r37 μ35 i38 n36 h => ?_)
      have h := h i38 n36
      obtain ⟨c39, h⟩ := h
      refine x_callVv (As := [iV p1, iV b3, iV b4, iV r37]) (rest := []) cal_X7_step ins_X7_step sel_X7_step ly236 (by decide) rfl (xX7_step x p1 b3 b4 r37 _ _ hp1 c39 c28 i38 h) rfl ml_X7_155 (xRoom (Nat.le_of_ble_eq_true rfl)) (Nat.le_of_ble_eq_true rfl) dX7_goOn_145 (fun μ40 n41 h => ?_)
      have h := h n41
      refine x_iinc 5 rfl [(5, iV (l5_25 + 1)), (0, .ref (x.2.2.1 + 236)), (1, iV p1), (2, iV b2), (3, iV b3), (4, iV b4)] dX7_goOn_148 (show 5 < 6 by decide) rfl ?_
      refine x_goto (tgt := 115) dX7_goOn_151 (by decide) ?_
      exact x_sub [1, 2, 3, 4, 5, 0] rfl (hJ115 _ _ h)
set_option maxRecDepth 100000 in
set_option maxHeartbeats 4000000 in
theorem xX7_goOn (x : xX) (p1 : Int) (μ : xM) (Q : xM → Prop) (hp1 : xIn p1) (h : tX7_goOn p1 μ Q) : xMet x 4 yX7_goOn cX7_goOn 6 none [.ref (x.2.2.1 + 236), iV p1] μ (xQv x Q) := by
  refine xMet_of (by decide +kernel) (Nat.le_of_ble_eq_true rfl) ?_
  show xW x (xRm 4, RX7, cX7_goOn, 6, none, fun _ _ => True) (xQv x Q) 0 [(0, .ref (x.2.2.1 + 236)), (1, iV p1)] [] μ
  refine x_ran (fun n0 => ?_)
  have h := h n0 hp1
  refine x_aload_n 0 rfl dX7_goOn_0 ?_
  refine x_iload_n 1 rfl dX7_goOn_1 ?_
  refine x_callVi (As := [iV p1]) (rest := []) cal_X7_standingAt ins_X7_standingAt sel_X7_standingAt ly236 (by decide) rfl (xX7_standingAt x p1 _ _ hp1 h) rfl ml_X7_136 (xRoom (Nat.le_of_ble_eq_true rfl)) (Nat.le_of_ble_eq_true rfl) dX7_goOn_2 (fun r3 μ1 i4 n2 h => ?_)
  have h := h i4 n2
  refine x_istore_n [(2, iV r3), (0, .ref (x.2.2.1 + 236)), (1, iV p1)] dX7_goOn_5 (show 2 < 6 by decide) rfl ?_
  refine x_aload_n 1 rfl dX7_goOn_6 ?_
  refine x_iload_n 2 rfl dX7_goOn_7 ?_
  refine x_iconst dX7_goOn_8 ?_
  refine x_callVv (As := [iV p1, iV (-1)]) (rest := []) cal_X7_shift ins_X7_shift sel_X7_shift ly236 (by decide) rfl (xX7_shift x p1 (-1) _ _ hp1 ⟨by decide, by decide⟩ h) rfl ml_X7_139 (xRoom (Nat.le_of_ble_eq_true rfl)) (Nat.le_of_ble_eq_true rfl) dX7_goOn_9 (fun μ5 n6 h => ?_)
  have h := h n6
  refine x_iconst dX7_goOn_12 ?_
  refine x_istore_n [(3, iV 0), (2, iV r3), (0, .ref (x.2.2.1 + 236)), (1, iV p1)] dX7_goOn_13 (show 3 < 6 by decide) rfl ?_
  refine x_sub [2, 3, 1, 0] rfl ?_
  refine x_loop1 (fun l3_7 => [(0, .ref (x.2.2.1 + 236)), (1, iV p1), (2, iV r3), (3, iV l3_7)]) h (fun J14 l3_7 μ8 hJ14 h n9 => ?_)
  refine x_iload_n 3 rfl dX7_goOn_14 ?_
  refine x_aload_n 0 rfl dX7_goOn_15 ?_
  refine x_getR (j := 0) (r := 39) ly236 (by decide) rfl rfl (by decide) inT7 fl_X7_35 dX7_goOn_16 ?_
  refine x_getI (j := 0) ly39 (by decide) rfl rfl (by decide) inT2 fl_X7_106 dX7_goOn_19 (fun r10 => ?_)
  obtain ⟨c11, h⟩ := h
  refine x_icmpge (tgt := 160) c11 r10 dX7_goOn_22 (by decide) (fun k12 => ?_) (fun k12 => ?_)
  · have h := h.1 k12
    refine x_aload_n 0 rfl dX7_goOn_160 ?_
    refine x_iload_n 1 rfl dX7_goOn_161 ?_
    refine x_iconst dX7_goOn_162 ?_
    refine x_callVv (As := [iV p1, iV 1]) (rest := []) cal_X7_shift ins_X7_shift sel_X7_shift ly236 (by decide) rfl (xX7_shift x p1 1 _ _ hp1 ⟨by decide, by decide⟩ h) rfl ml_X7_139 (xRoom (Nat.le_of_ble_eq_true rfl)) (Nat.le_of_ble_eq_true rfl) dX7_goOn_163 (fun μ13 n14 h => ?_)
    have h := h n14
    exact x_vret h rfl dX7_goOn_166
  · have h := h.2 k12
    refine x_iload_n 1 rfl dX7_goOn_25 ?_
    refine x_iload_n 3 rfl dX7_goOn_26 ?_
    refine x_callSi (As := [iV p1, iV l3_7]) (rest := []) cal_X7_kindAt sta_X7_kindAt (xX7_kindAt x p1 l3_7 _ _ hp1 c11 h) rfl ml_X7_109 (xRoom (Nat.le_of_ble_eq_true rfl)) (Nat.le_of_ble_eq_true rfl) dX7_goOn_27 (fun r17 μ15 i18 n16 h => ?_)
    have h := h i18 n16
    refine x_istore [(4, iV r17), (0, .ref (x.2.2.1 + 236)), (1, iV p1), (2, iV r3), (3, iV l3_7)] dX7_goOn_30 (show 4 < 6 by decide) rfl ?_
    refine x_iload_n 3 rfl dX7_goOn_32 ?_
    refine x_iconst dX7_goOn_33 ?_
    refine x_isub dX7_goOn_34 ?_
    refine x_aload_n 1 rfl dX7_goOn_35 ?_
    refine x_getI (j := 12) ly236 (by decide) rfl rfl (by decide) inT7 fl_X7_57 dX7_goOn_36 (fun r19 => ?_)
    obtain ⟨c20, h⟩ := h
    refine x_icmpgt (tgt := 102) c20 r19 dX7_goOn_39 (by decide) (fun k21 => ?_) (fun k21 => ?_)
    · have h := h.1 k21
      exact x_sub [1, 2, 3, 4, 0] rfl (xX7_goOn_b102 x p1 r3 l3_7 r17 μ15 Q J14 hp1 hJ14 h)
    · have h := h.2 k21
      refine x_iconst dX7_goOn_42 ?_
      refine x_istore [(5, iV 0), (4, iV r17), (0, .ref (x.2.2.1 + 236)), (1, iV p1), (2, iV r3), (3, iV l3_7)] dX7_goOn_43 (show 5 < 6 by decide) rfl ?_
      refine x_sub [2, 3, 4, 5, 1, 0] rfl ?_
      refine x_loop1 (fun l5_42 => [(0, .ref (x.2.2.1 + 236)), (1, iV p1), (2, iV r3), (3, iV l3_7), (4, iV r17), (5, iV l5_42)]) h (fun J45 l5_42 μ43 hJ45 h n44 => ?_)
      refine x_iload 5 rfl dX7_goOn_45 ?_
      refine x_aload_n 0 rfl dX7_goOn_47 ?_
      refine x_getR (j := 1) (r := 73) ly236 (by decide) rfl rfl (by decide) inT7 fl_X7_39 dX7_goOn_48 ?_
      refine x_iload 4 rfl dX7_goOn_51 ?_
      refine x_callVi (As := [iV r17]) (rest := [iV l5_42]) cal_X1_ups ins_X1_ups sel_X1_ups ly73 (by decide) rfl (xX1_ups x r17 _ _ i18 h) rfl ml_X7_118 (xRoom (Nat.le_of_ble_eq_true rfl)) (Nat.le_of_ble_eq_true rfl) dX7_goOn_53 (fun r47 μ45 i48 n46 h => ?_)
      have h := h i48 n46
      obtain ⟨c49, h⟩ := h
      refine x_icmpge (tgt := 102) c49 i48 dX7_goOn_56 (by decide) (fun k50 => ?_) (fun k50 => ?_)
      · have h := h.1 k50
        exact x_sub [0, 1, 2, 3, 4] rfl (xX7_goOn_b102 x p1 r3 l3_7 r17 μ45 Q J14 hp1 hJ14 h)
      · have h := h.2 k50
        refine x_aload_n 0 rfl dX7_goOn_59 ?_
        refine x_aload_n 0 rfl dX7_goOn_60 ?_
        refine x_getR (j := 1) (r := 73) ly236 (by decide) rfl rfl (by decide) inT7 fl_X7_39 dX7_goOn_61 ?_
        refine x_iload 4 rfl dX7_goOn_64 ?_
        refine x_iload 5 rfl dX7_goOn_66 ?_
        refine x_callVi (As := [iV r17, iV l5_42]) (rest := [.ref (x.2.2.1 + 236)]) cal_X1_byOf ins_X1_byOf sel_X1_byOf ly73 (by decide) rfl (xX1_byOf x r17 l5_42 _ _ i18 c49 h) rfl ml_X7_149 (xRoom (Nat.le_of_ble_eq_true rfl)) (Nat.le_of_ble_eq_true rfl) dX7_goOn_68 (fun r53 μ51 i54 n52 h => ?_)
        have h := h i54 n52
        refine x_callVz (As := [iV r53]) (rest := []) cal_X7_isStanding ins_X7_isStanding sel_X7_isStanding ly236 (by decide) rfl (xX7_isStanding x r53 _ _ i54 h) rfl ml_X7_152 (xRoom (Nat.le_of_ble_eq_true rfl)) (Nat.le_of_ble_eq_true rfl) dX7_goOn_71 (fun r57 μ55 i58 n56 h => ?_)
        have h := h i58 n56
        refine x_ifeq (tgt := 96) (xIz i58)  dX7_goOn_74 (by decide) (fun k59 => ?_) (fun k59 => ?_)
        · have h := h.1 k59
          refine x_iinc 5 rfl [(5, iV (l5_42 + 1)), (0, .ref (x.2.2.1 + 236)), (1, iV p1), (2, iV r3), (3, iV l3_7), (4, iV r17)] dX7_goOn_96 (show 5 < 6 by decide) rfl ?_
          refine x_goto (tgt := 45) dX7_goOn_99 (by decide) ?_
          exact x_sub [1, 2, 3, 4, 5, 0] rfl (hJ45 _ _ h)
        · have h := h.2 (xz1 i58 k59)
          refine x_aload_n 0 rfl dX7_goOn_77 ?_
          refine x_iload_n 1 rfl dX7_goOn_78 ?_
          refine x_iload_n 3 rfl dX7_goOn_79 ?_
          refine x_iload 4 rfl dX7_goOn_80 ?_
          refine x_aload_n 0 rfl dX7_goOn_82 ?_
          refine x_getR (j := 1) (r := 73) ly236 (by decide) rfl rfl (by decide) inT7 fl_X7_39 dX7_goOn_83 ?_
          refine x_iload 4 rfl dX7_goOn_86 ?_
          refine x_iload 5 rfl dX7_goOn_88 ?_
          refine x_callVi (As := [iV r17, iV l5_42]) (rest := [iV r17, iV l3_7, iV p1, .ref (x.2.2.1 + 236)]) cal_X1_upOf ins_X1_upOf sel_X1_upOf ly73 (by decide) rfl (xX1_upOf x r17 l5_42 _ _ i18 c49 h) rfl ml_X7_126 (xRoom (Nat.le_of_ble_eq_true rfl)) (Nat.le_of_ble_eq_true rfl) dX7_goOn_90 (fun r62 μ60 i63 n61 h => ?_)
          have h := h i63 n61
          obtain ⟨c64, h⟩ := h
          refine x_callVv (As := [iV p1, iV l3_7, iV r17, iV r62]) (rest := []) cal_X7_step ins_X7_step sel_X7_step ly236 (by decide) rfl (xX7_step x p1 l3_7 r17 r62 _ _ hp1 c64 i18 i63 h) rfl ml_X7_155 (xRoom (Nat.le_of_ble_eq_true rfl)) (Nat.le_of_ble_eq_true rfl) dX7_goOn_93 (fun μ65 n66 h => ?_)
          have h := h n66
          refine x_iinc 5 rfl [(5, iV (l5_42 + 1)), (0, .ref (x.2.2.1 + 236)), (1, iV p1), (2, iV r3), (3, iV l3_7), (4, iV r17)] dX7_goOn_96 (show 5 < 6 by decide) rfl ?_
          refine x_goto (tgt := 45) dX7_goOn_99 (by decide) ?_
          exact x_sub [1, 2, 3, 4, 5, 0] rfl (hJ45 _ _ h)
set_option maxRecDepth 100000 in
set_option maxHeartbeats 4000000 in
theorem xX7_goOnAll (x : xX)  (μ : xM) (Q : xM → Prop)  (h : tX7_goOnAll  μ Q) : xMet x 5 yX7_goOnAll cX7_goOnAll 2 none [.ref (x.2.2.1 + 236)] μ (xQv x Q) := by
  refine xMet_of (by decide +kernel) (Nat.le_of_ble_eq_true rfl) ?_
  show xW x (xRm 5, RX7, cX7_goOnAll, 2, none, fun _ _ => True) (xQv x Q) 0 [(0, .ref (x.2.2.1 + 236))] [] μ
  refine x_ran (fun n0 => ?_)
  have h := h n0 
  refine x_iconst dX7_goOnAll_0 ?_
  refine x_istore_n [(1, iV 0), (0, .ref (x.2.2.1 + 236))] dX7_goOnAll_1 (show 1 < 2 by decide) rfl ?_
  refine x_sub [1, 0] rfl ?_
  refine x_loop1 (fun l1_1 => [(0, .ref (x.2.2.1 + 236)), (1, iV l1_1)]) h (fun J2 l1_1 μ2 hJ2 h n3 => ?_)
  refine x_iload_n 1 rfl dX7_goOnAll_2 ?_
  refine x_sipush dX7_goOnAll_3 (by decide) ?_
  obtain ⟨c4, h⟩ := h
  refine x_icmpge (tgt := 45) c4 ⟨by decide, by decide⟩ dX7_goOnAll_6 (by decide) (fun k5 => ?_) (fun k5 => ?_)
  · have h := h.1 k5
    exact x_vret h rfl dX7_goOnAll_45
  · have h := h.2 k5
    refine x_aload_n 0 rfl dX7_goOnAll_9 ?_
    refine x_getI (j := 9) ly236 (by decide) rfl rfl (by decide) inT7 fl_X7_75 dX7_goOnAll_10 (fun r6 => ?_)
    refine x_ifle (tgt := 45) r6  dX7_goOnAll_13 (by decide) (fun k7 => ?_) (fun k7 => ?_)
    · have h := h.1 k7
      exact x_vret h rfl dX7_goOnAll_45
    · have h := h.2 k7
      refine x_aload_n 0 rfl dX7_goOnAll_16 ?_
      refine x_dup rfl dX7_goOnAll_17 ?_
      refine x_getI (j := 9) ly236 (by decide) rfl rfl (by decide) inT7 fl_X7_75 dX7_goOnAll_18 (fun r8 => ?_)
      refine x_iconst dX7_goOnAll_21 ?_
      refine x_isub dX7_goOnAll_22 ?_
      obtain ⟨c9, h⟩ := h
      refine x_putI (j := 9) ly236 (by decide) rfl rfl (by decide) inT7 fl_X7_75 tyX7 tyX7_ok nmX7 rfl c9 (by decide +kernel) dX7_goOnAll_23 (fun μ10 e12 n11 => ?_)
      have h := h μ10 e12 n11
      refine x_aload_n 0 rfl dX7_goOnAll_26 ?_
      refine x_aload_n 0 rfl dX7_goOnAll_27 ?_
      refine x_getD (j := 5) ly236 (by decide) rfl rfl (by decide) inT7 fl_X7_23 dX7_goOnAll_28 ?_
      obtain ⟨c13, h⟩ := h
      refine x_aload_n 0 rfl dX7_goOnAll_31 ?_
      refine x_getI (j := 9) ly236 (by decide) rfl rfl (by decide) inT7 fl_X7_75 dX7_goOnAll_32 (fun r14 => ?_)
      obtain ⟨c15, h⟩ := h
      refine x_iald c13.1 c15.1 c15.2 r14 c13.2 dX7_goOnAll_35 (fun r16 => ?_)
      refine x_callVv (As := [iV (μ10 ((μ10 236 5).toNat) ((μ10 236 9).toNat))]) (rest := []) cal_X7_goOn ins_X7_goOn sel_X7_goOn ly236 (by decide) rfl (xX7_goOn x (μ10 ((μ10 236 5).toNat) ((μ10 236 9).toNat)) _ _ r16 h) rfl ml_X7_146 (xRoom (Nat.le_of_ble_eq_true rfl)) (Nat.le_of_ble_eq_true rfl) dX7_goOnAll_36 (fun μ17 n18 h => ?_)
      have h := h n18
      refine x_iinc 1 rfl [(1, iV (l1_1 + 1)), (0, .ref (x.2.2.1 + 236))] dX7_goOnAll_39 (show 1 < 2 by decide) rfl ?_
      refine x_goto (tgt := 2) dX7_goOnAll_42 (by decide) ?_
      exact x_sub [1, 0] rfl (hJ2 _ _ h)
set_option maxRecDepth 100000 in
set_option maxHeartbeats 4000000 in
theorem xX7_takeLater (x : xX)  (μ : xM) (Q : xM → Prop)  (h : tX7_takeLater  μ Q) : xMet x 3 yX7_takeLater cX7_takeLater 4 none [.ref (x.2.2.1 + 236)] μ (xQv x Q) := by
  refine xMet_of (by decide +kernel) (Nat.le_of_ble_eq_true rfl) ?_
  show xW x (xRm 3, RX7, cX7_takeLater, 4, none, fun _ _ => True) (xQv x Q) 0 [(0, .ref (x.2.2.1 + 236))] [] μ
  refine x_ran (fun n0 => ?_)
  have h := h n0 
  refine x_aload_n 0 rfl dX7_takeLater_0 ?_
  refine x_getD (j := 6) ly236 (by decide) rfl rfl (by decide) inT7 fl_X7_26 dX7_takeLater_1 ?_
  obtain ⟨c1, h⟩ := h
  refine x_astore_n [(1, .ref (x.2.2.1 + ((μ 236 6).toNat))), (0, .ref (x.2.2.1 + 236))] dX7_takeLater_4 (show 1 < 4 by decide) rfl ?_
  refine x_aload_n 1 rfl dX7_takeLater_5 ?_
  refine x_getI (j := 10) ly236 (by decide) rfl rfl (by decide) inT7 fl_X7_78 dX7_takeLater_6 (fun r2 => ?_)
  refine x_istore_n [(2, iV (μ 236 10)), (1, .ref (x.2.2.1 + ((μ 236 6).toNat))), (0, .ref (x.2.2.1 + 236))] dX7_takeLater_9 (show 2 < 4 by decide) rfl ?_
  refine x_aload_n 2 rfl dX7_takeLater_10 ?_
  refine x_aload_n 2 rfl dX7_takeLater_11 ?_
  refine x_getD (j := 5) ly236 (by decide) rfl rfl (by decide) inT7 fl_X7_23 dX7_takeLater_12 ?_
  obtain ⟨c3, h⟩ := h
  refine x_putD (j := 6) ly236 (by decide) rfl rfl (by decide) inT7 fl_X7_26 tyX7 tyX7_ok nmX7 rfl c3.2 (by decide +kernel) dX7_takeLater_15 (fun μ4 e6 n5 => ?_)
  have h := h μ4 e6 n5
  refine x_aload_n 2 rfl dX7_takeLater_18 ?_
  refine x_aload_n 1 rfl dX7_takeLater_19 ?_
  refine x_putD (j := 5) ly236 (by decide) rfl rfl (by decide) inT7 fl_X7_23 tyX7 tyX7_ok nmX7 rfl c1.2 (by decide +kernel) dX7_takeLater_20 (fun μ7 e9 n8 => ?_)
  have h := h μ7 e9 n8
  refine x_aload_n 2 rfl dX7_takeLater_23 ?_
  refine x_iconst dX7_takeLater_24 ?_
  refine x_putI (j := 10) ly236 (by decide) rfl rfl (by decide) inT7 fl_X7_78 tyX7 tyX7_ok nmX7 rfl ⟨by decide, by decide⟩ (by decide +kernel) dX7_takeLater_25 (fun μ10 e12 n11 => ?_)
  have h := h μ10 e12 n11
  refine x_aload_n 2 rfl dX7_takeLater_28 ?_
  refine x_iconst dX7_takeLater_29 ?_
  refine x_putI (j := 9) ly236 (by decide) rfl rfl (by decide) inT7 fl_X7_75 tyX7 tyX7_ok nmX7 rfl ⟨by decide, by decide⟩ (by decide +kernel) dX7_takeLater_30 (fun μ13 e15 n14 => ?_)
  have h := h μ13 e15 n14
  refine x_iconst dX7_takeLater_33 ?_
  refine x_istore_n [(3, iV 0), (2, iV (μ 236 10)), (1, .ref (x.2.2.1 + ((μ 236 6).toNat))), (0, .ref (x.2.2.1 + 236))] dX7_takeLater_34 (show 3 < 4 by decide) rfl ?_
  refine x_sub [3, 2, 1, 0] rfl ?_
  refine x_loop1 (fun l3_16 => [(0, .ref (x.2.2.1 + 236)), (1, .ref (x.2.2.1 + ((μ 236 6).toNat))), (2, iV (μ 236 10)), (3, iV l3_16)]) h (fun J35 l3_16 μ17 hJ35 h n18 => ?_)
  refine x_iload_n 3 rfl dX7_takeLater_35 ?_
  refine x_iload_n 2 rfl dX7_takeLater_36 ?_
  obtain ⟨c19, h⟩ := h
  refine x_icmpge (tgt := 60) c19 r2 dX7_takeLater_37 (by decide) (fun k20 => ?_) (fun k20 => ?_)
  · have h := h.1 k20
    exact x_vret h rfl dX7_takeLater_60
  · have h := h.2 k20
    refine x_iload_n 3 rfl dX7_takeLater_40 ?_
    refine x_sipush dX7_takeLater_41 (by decide) ?_
    refine x_icmpge (tgt := 60) c19 ⟨by decide, by decide⟩ dX7_takeLater_44 (by decide) (fun k21 => ?_) (fun k21 => ?_)
    · have h := h.1 k21
      exact x_vret h rfl dX7_takeLater_60
    · have h := h.2 k21
      refine x_aload_n 0 rfl dX7_takeLater_47 ?_
      refine x_aload_n 1 rfl dX7_takeLater_48 ?_
      refine x_iload_n 3 rfl dX7_takeLater_49 ?_
      obtain ⟨c22, h⟩ := h
      refine x_iald c1.1 c22.1 c22.2 (xIb (n := 15625) c22 (by decide)) c1.2 dX7_takeLater_50 (fun r23 => ?_)
      refine x_callVv (As := [iV (μ17 ((μ 236 6).toNat) l3_16.toNat)]) (rest := []) cal_X7_putNow ins_X7_putNow sel_X7_putNow ly236 (by decide) rfl (xX7_putNow x (μ17 ((μ 236 6).toNat) l3_16.toNat) _ _ r23 h) rfl ml_X7_81 (xRoom (Nat.le_of_ble_eq_true rfl)) (Nat.le_of_ble_eq_true rfl) dX7_takeLater_51 (fun μ24 n25 h => ?_)
      have h := h n25
      refine x_iinc 3 rfl [(3, iV (l3_16 + 1)), (0, .ref (x.2.2.1 + 236)), (1, .ref (x.2.2.1 + ((μ 236 6).toNat))), (2, iV (μ 236 10))] dX7_takeLater_54 (show 3 < 4 by decide) rfl ?_
      refine x_goto (tgt := 35) dX7_takeLater_57 (by decide) ?_
      exact x_sub [1, 2, 3, 0] rfl (hJ35 _ _ h)
set_option maxRecDepth 100000 in
set_option maxHeartbeats 4000000 in
theorem xX7_climb (x : xX) (p1 : Nat) (p2 : Int) (p3 : Int) (μ : xM) (Q : Int → xM → Prop) (hp1 : isNight p1) (hp2 : xIn p2) (hp3 : xIn p3) (h : tX7_climb p1 p2 p3 μ Q) : xMet x 6 yX7_climb cX7_climb 7 (some .int) [.ref (x.2.2.1 + 236), .ref (x.2.2.1 + p1), iV p2, iV p3] μ (xQi x Q) := by
  refine xMet_of (by decide +kernel) (Nat.le_of_ble_eq_true rfl) ?_
  show xW x (xRm 6, RX7, cX7_climb, 7, (some .int), fun _ _ => True) (xQi x Q) 0 [(0, .ref (x.2.2.1 + 236)), (1, .ref (x.2.2.1 + p1)), (2, iV p2), (3, iV p3)] [] μ
  refine x_ran (fun n0 => ?_)
  have h := h n0 hp2 hp3
  refine x_aload_n 0 rfl dX7_climb_0 ?_
  refine x_aload_n 1 rfl dX7_climb_1 ?_
  refine x_iconst dX7_climb_2 ?_
  refine x_callVi (As := [iV 0]) (rest := [.ref (x.2.2.1 + 236)]) cal_X4_at ins_X4_at sel_X4_at hp1.1 (by have := hp1.2.1; omega) rfl (xX4_at x p1 0 _ _ hp1 ⟨by decide, by decide⟩ h) rfl ml_X7_43 (xRoom (Nat.le_of_ble_eq_true rfl)) (Nat.le_of_ble_eq_true rfl) dX7_climb_3 (fun r3 μ1 i4 n2 h => ?_)
  have h := h i4 n2
  refine x_aload_n 1 rfl dX7_climb_6 ?_
  refine x_iconst dX7_climb_7 ?_
  refine x_callVi (As := [iV 1]) (rest := [iV r3, .ref (x.2.2.1 + 236)]) cal_X4_at ins_X4_at sel_X4_at hp1.1 (by have := hp1.2.1; omega) rfl (xX4_at x p1 1 _ _ hp1 ⟨by decide, by decide⟩ h) rfl ml_X7_43 (xRoom (Nat.le_of_ble_eq_true rfl)) (Nat.le_of_ble_eq_true rfl) dX7_climb_8 (fun r7 μ5 i8 n6 h => ?_)
  have h := h i8 n6
  refine x_aload_n 1 rfl dX7_climb_11 ?_
  refine x_iconst dX7_climb_12 ?_
  refine x_callVi (As := [iV 2]) (rest := [iV r7, iV r3, .ref (x.2.2.1 + 236)]) cal_X4_at ins_X4_at sel_X4_at hp1.1 (by have := hp1.2.1; omega) rfl (xX4_at x p1 2 _ _ hp1 ⟨by decide, by decide⟩ h) rfl ml_X7_43 (xRoom (Nat.le_of_ble_eq_true rfl)) (Nat.le_of_ble_eq_true rfl) dX7_climb_13 (fun r11 μ9 i12 n10 h => ?_)
  have h := h i12 n10
  refine x_callVi (As := [iV r3, iV r7, iV r11]) (rest := []) cal_X7_codeOf ins_X7_codeOf sel_X7_codeOf ly236 (by decide) rfl (xX7_codeOf x r3 r7 r11 _ _ i4 i8 i12 h) rfl ml_X7_49 (xRoom (Nat.le_of_ble_eq_true rfl)) (Nat.le_of_ble_eq_true rfl) dX7_climb_16 (fun r15 μ13 i16 n14 h => ?_)
  have h := h i16 n14
  refine x_istore [(4, iV r15), (0, .ref (x.2.2.1 + 236)), (1, .ref (x.2.2.1 + p1)), (2, iV p2), (3, iV p3)] dX7_climb_19 (show 4 < 7 by decide) rfl ?_
  refine x_iload 0 rfl dX7_climb_21 ?_
  refine x_iload_n 3 rfl dX7_climb_23 ?_
  refine x_icmpne (tgt := 29) i16 hp2 dX7_climb_24 (by decide) (fun k17 => ?_) (fun k17 => ?_)
  · have h := h.1 k17
    refine x_aload_n 1 rfl dX7_climb_29 ?_
    refine x_aload_n 2 rfl dX7_climb_30 ?_
    refine x_callVv (As := [.ref (x.2.2.1 + p1)]) (rest := []) cal_X7_gather ins_X7_gather sel_X7_gather ly236 (by decide) rfl (xX7_gather x p1 _ _ hp1 h) rfl ml_X7_53 (xRoom (Nat.le_of_ble_eq_true rfl)) (Nat.le_of_ble_eq_true rfl) dX7_climb_31 (fun μ18 n19 h => ?_)
    have h := h n19
    refine x_aload_n 1 rfl dX7_climb_34 ?_
    refine x_iload_n 4 rfl dX7_climb_35 ?_
    refine x_putI (j := 12) ly236 (by decide) rfl rfl (by decide) inT7 fl_X7_57 tyX7 tyX7_ok nmX7 rfl hp3 (by decide +kernel) dX7_climb_36 (fun μ20 e22 n21 => ?_)
    have h := h μ20 e22 n21
    refine x_aload_n 1 rfl dX7_climb_39 ?_
    refine x_iload 0 rfl dX7_climb_40 ?_
    refine x_iload_n 3 rfl dX7_climb_42 ?_
    refine x_callVi (As := [iV r15, iV p2]) (rest := []) cal_X7_awayFrom ins_X7_awayFrom sel_X7_awayFrom ly236 (by decide) rfl (xX7_awayFrom x r15 p2 _ _ i16 hp2 h) rfl ml_X7_61 (xRoom (Nat.le_of_ble_eq_true rfl)) (Nat.le_of_ble_eq_true rfl) dX7_climb_43 (fun r25 μ23 i26 n24 h => ?_)
    have h := h i26 n24
    refine x_istore [(5, iV r25), (4, iV r15), (0, .ref (x.2.2.1 + 236)), (1, .ref (x.2.2.1 + p1)), (2, iV p2), (3, iV p3)] dX7_climb_46 (show 5 < 7 by decide) rfl ?_
    refine x_iload 0 rfl dX7_climb_48 ?_
    refine x_iflt (tgt := 61) i26  dX7_climb_50 (by decide) (fun k27 => ?_) (fun k27 => ?_)
    · have h := h.1 k27
      refine x_bipush dX7_climb_61 (by decide) ?_
      exact x_iret h ⟨by decide, by decide⟩ rfl dX7_climb_63
    · have h := h.2 k27
      refine x_aload_n 2 rfl dX7_climb_53 ?_
      refine x_iload_n 4 rfl dX7_climb_54 ?_
      refine x_callVz (As := [iV p2]) (rest := []) cal_X7_canBe ins_X7_canBe sel_X7_canBe ly236 (by decide) rfl (xX7_canBe x p2 _ _ hp2 h) rfl ml_X7_65 (xRoom (Nat.le_of_ble_eq_true rfl)) (Nat.le_of_ble_eq_true rfl) dX7_climb_55 (fun r30 μ28 i31 n29 h => ?_)
      have h := h i31 n29
      refine x_ifne (tgt := 64) (xIz i31)  dX7_climb_58 (by decide) (fun k32 => ?_) (fun k32 => ?_)
      · have h := h.1 (xz1 i31 k32)
        refine x_aload_n 2 rfl dX7_climb_64 ?_
        refine x_getR (j := 7) (r := 245) ly236 (by decide) rfl rfl (by decide) inT7 fl_X7_29 dX7_climb_65 ?_
        refine x_iconst dX7_climb_68 ?_
        refine x_callSv (As := [.ref (x.2.2.1 + 245), iV 0]) (rest := []) cal_J7_fill_53178 sta_J7_fill_53178 (xJ7_fill_53178 x 245 489 0 _ _ ⟨ly245, (by decide), (by decide)⟩ ⟨by decide, by decide⟩ h) rfl ml_X7_69 (xRoom (Nat.le_of_ble_eq_true rfl)) (Nat.le_of_ble_eq_true rfl) dX7_climb_69 (fun μ33 n34 h => ?_)
        have h := h n34
        refine x_aload_n 2 rfl dX7_climb_72 ?_
        refine x_getR (j := 8) (r := 246) ly236 (by decide) rfl rfl (by decide) inT7 fl_X7_32 dX7_climb_73 ?_
        refine x_iconst dX7_climb_76 ?_
        refine x_callSv (As := [.ref (x.2.2.1 + 246), iV 0]) (rest := []) cal_J7_fill_53178 sta_J7_fill_53178 (xJ7_fill_53178 x 246 489 0 _ _ ⟨ly246, (by decide), (by decide)⟩ ⟨by decide, by decide⟩ h) rfl ml_X7_69 (xRoom (Nat.le_of_ble_eq_true rfl)) (Nat.le_of_ble_eq_true rfl) dX7_climb_77 (fun μ35 n36 h => ?_)
        have h := h n36
        refine x_aload_n 2 rfl dX7_climb_80 ?_
        refine x_iconst dX7_climb_81 ?_
        refine x_putI (j := 9) ly236 (by decide) rfl rfl (by decide) inT7 fl_X7_75 tyX7 tyX7_ok nmX7 rfl ⟨by decide, by decide⟩ (by decide +kernel) dX7_climb_82 (fun μ37 e39 n38 => ?_)
        have h := h μ37 e39 n38
        refine x_aload_n 2 rfl dX7_climb_85 ?_
        refine x_iconst dX7_climb_86 ?_
        refine x_putI (j := 10) ly236 (by decide) rfl rfl (by decide) inT7 fl_X7_78 tyX7 tyX7_ok nmX7 rfl ⟨by decide, by decide⟩ (by decide +kernel) dX7_climb_87 (fun μ40 e42 n41 => ?_)
        have h := h μ40 e42 n41
        refine x_aload_n 2 rfl dX7_climb_90 ?_
        refine x_iload 1 rfl dX7_climb_91 ?_
        refine x_callVv (As := [iV r15]) (rest := []) cal_X7_putNow ins_X7_putNow sel_X7_putNow ly236 (by decide) rfl (xX7_putNow x r15 _ _ i16 h) rfl ml_X7_81 (xRoom (Nat.le_of_ble_eq_true rfl)) (Nat.le_of_ble_eq_true rfl) dX7_climb_93 (fun μ43 n44 h => ?_)
        have h := h n44
        refine x_iload 0 rfl dX7_climb_96 ?_
        refine x_istore [(6, iV r25), (5, iV r25), (4, iV r15), (0, .ref (x.2.2.1 + 236)), (1, .ref (x.2.2.1 + p1)), (2, iV p2), (3, iV p3)] dX7_climb_98 (show 6 < 7 by decide) rfl ?_
        refine x_sub [3, 5, 0] rfl ?_
        refine x_loop1 (fun l6_45 => [(0, .ref (x.2.2.1 + 236)), (2, iV p2), (6, iV l6_45)]) h (fun J100 l6_45 μ46 hJ100 h n47 => ?_)
        refine x_iload 2 rfl dX7_climb_100 ?_
        refine x_sipush dX7_climb_102 (by decide) ?_
        obtain ⟨c48, h⟩ := h
        refine x_icmpgt (tgt := 143) c48 ⟨by decide, by decide⟩ dX7_climb_105 (by decide) (fun k49 => ?_) (fun k49 => ?_)
        · have h := h.1 k49
          refine x_bipush dX7_climb_143 (by decide) ?_
          exact x_iret h ⟨by decide, by decide⟩ rfl dX7_climb_145
        · have h := h.2 k49
          refine x_aload_n 0 rfl dX7_climb_108 ?_
          refine x_getI (j := 9) ly236 (by decide) rfl rfl (by decide) inT7 fl_X7_75 dX7_climb_109 (fun r50 => ?_)
          refine x_ifle (tgt := 143) r50  dX7_climb_112 (by decide) (fun k51 => ?_) (fun k51 => ?_)
          · have h := h.1 k51
            refine x_bipush dX7_climb_143 (by decide) ?_
            exact x_iret h ⟨by decide, by decide⟩ rfl dX7_climb_145
          · have h := h.2 k51
            refine x_aload_n 0 rfl dX7_climb_115 ?_
            refine x_callVv (As := []) (rest := []) cal_X7_goOnAll ins_X7_goOnAll sel_X7_goOnAll ly236 (by decide) rfl (xX7_goOnAll x  _ _  h) rfl ml_X7_85 (xRoom (Nat.le_of_ble_eq_true rfl)) (Nat.le_of_ble_eq_true rfl) dX7_climb_116 (fun μ52 n53 h => ?_)
            have h := h n53
            refine x_aload_n 0 rfl dX7_climb_119 ?_
            refine x_getR (j := 7) (r := 245) ly236 (by decide) rfl rfl (by decide) inT7 fl_X7_29 dX7_climb_120 ?_
            refine x_iload_n 1 rfl dX7_climb_123 ?_
            refine x_callSz (As := [.ref (x.2.2.1 + 245), iV p2]) (rest := []) cal_X7_isIn sta_X7_isIn (xX7_isIn x 245 489 p2 _ _ ⟨ly245, (by decide), (by decide)⟩ hp2 h) rfl ml_X7_88 (xRoom (Nat.le_of_ble_eq_true rfl)) (Nat.le_of_ble_eq_true rfl) dX7_climb_124 (fun r56 μ54 i57 n55 h => ?_)
            have h := h i57 n55
            refine x_ifeq (tgt := 133) (xIz i57)  dX7_climb_127 (by decide) (fun k58 => ?_) (fun k58 => ?_)
            · have h := h.1 k58
              refine x_aload_n 0 rfl dX7_climb_133 ?_
              refine x_callVv (As := []) (rest := []) cal_X7_takeLater ins_X7_takeLater sel_X7_takeLater ly236 (by decide) rfl (xX7_takeLater x  _ _  h) rfl ml_X7_92 (xRoom (Nat.le_of_ble_eq_true rfl)) (Nat.le_of_ble_eq_true rfl) dX7_climb_134 (fun μ59 n60 h => ?_)
              have h := h n60
              refine x_iinc 2 rfl [(6, iV (l6_45 + 2)), (0, .ref (x.2.2.1 + 236)), (2, iV p2)] dX7_climb_137 (show 6 < 7 by decide) rfl ?_
              refine x_goto (tgt := 100) dX7_climb_140 (by decide) ?_
              exact x_sub [1, 2, 0] rfl (hJ100 _ _ h)
            · have h := h.2 (xz1 i57 k58)
              refine x_iload 2 rfl dX7_climb_130 ?_
              exact x_iret h c48 rfl dX7_climb_132
      · have h := h.2 k32
        refine x_bipush dX7_climb_61 (by decide) ?_
        exact x_iret h ⟨by decide, by decide⟩ rfl dX7_climb_63
  · have h := h.2 k17
    refine x_iconst dX7_climb_27 ?_
    exact x_iret h ⟨by decide, by decide⟩ rfl dX7_climb_28
set_option maxRecDepth 100000 in
set_option maxHeartbeats 4000000 in
theorem xX8_scoreOf (x : xX) (p1 : Nat) (p2 : Int) (p3 : Int) (μ : xM) (Q : Int → xM → Prop) (hp1 : isNight p1) (hp2 : xIn p2) (hp3 : xIn p3) (h : tX8_scoreOf p1 p2 p3 μ Q) : xMet x 32 yX8_scoreOf cX8_scoreOf 4 (some .int) [.ref (x.2.2.1 + 235), .ref (x.2.2.1 + p1), iV p2, iV p3] μ (xQi x Q) := by
  refine xMet_of (by decide +kernel) (Nat.le_of_ble_eq_true rfl) ?_
  show xW x (xRm 32, RX8, cX8_scoreOf, 4, (some .int), fun _ _ => True) (xQi x Q) 0 [(0, .ref (x.2.2.1 + 235)), (1, .ref (x.2.2.1 + p1)), (2, iV p2), (3, iV p3)] [] μ
  refine x_ran (fun n0 => ?_)
  have h := h n0 hp2 hp3
  refine x_aload_n 1 rfl dX8_scoreOf_0 ?_
  refine x_getI (j := 0) hp1.1 (by have := hp1.2.1; omega) rfl rfl (by decide) inT4 fl_X8_61 dX8_scoreOf_1 (fun r1 => ?_)
  by_cases k6 : (μ p1 0) = 1
  · refine x_tabIn (tgt := 32) 0 r1 (by omega) (by decide) rfl (by decide) dX8_scoreOf_4 ?_
    have h := h.1 k6
    refine x_aload_n 0 rfl dX8_scoreOf_32 ?_
    refine x_getR (j := 1) (r := 73) ly235 (by decide) rfl rfl (by decide) inT8 fl_X8_15 dX8_scoreOf_33 ?_
    refine x_iload_n 3 rfl dX8_scoreOf_36 ?_
    refine x_callVi (As := [iV p3]) (rest := []) cal_X1_chainOf ins_X1_chainOf sel_X1_chainOf ly73 (by decide) rfl (xX1_chainOf x p3 _ _ hp3 h) rfl ml_X8_76 (xRoom (Nat.le_of_ble_eq_true rfl)) (Nat.le_of_ble_eq_true rfl) dX8_scoreOf_37 (fun r4 μ2 i5 n3 h => ?_)
    have h := h i5 n3
    exact x_iret h i5 rfl dX8_scoreOf_40
  by_cases k20 : (μ p1 0) = 2
  · refine x_tabIn (tgt := 41) 1 r1 (by omega) (by decide) rfl (by decide) dX8_scoreOf_4 ?_
    have h := h.2.1 k20
    refine x_aload_n 0 rfl dX8_scoreOf_41 ?_
    refine x_getR (j := 0) (r := 39) ly235 (by decide) rfl rfl (by decide) inT8 fl_X8_9 dX8_scoreOf_42 ?_
    refine x_iload_n 3 rfl dX8_scoreOf_45 ?_
    refine x_callVi (As := [iV p3]) (rest := []) cal_X2_valueOf ins_X2_valueOf sel_X2_valueOf ly39 (by decide) rfl (xX2_valueOf x 39 p3 _ _ isHouse_39 hp3 h) rfl ml_X8_79 (xRoom (Nat.le_of_ble_eq_true rfl)) (Nat.le_of_ble_eq_true rfl) dX8_scoreOf_46 (fun r9 μ7 i10 n8 h => ?_)
    have h := h i10 n8
    refine x_aload_n 0 rfl dX8_scoreOf_49 ?_
    refine x_getR (j := 0) (r := 39) ly235 (by decide) rfl rfl (by decide) inT8 fl_X8_9 dX8_scoreOf_50 ?_
    refine x_aload_n 1 rfl dX8_scoreOf_53 ?_
    refine x_iload_n 2 rfl dX8_scoreOf_54 ?_
    refine x_callVi (As := [iV p2]) (rest := [.ref (x.2.2.1 + 39), iV r9]) cal_X4_at ins_X4_at sel_X4_at hp1.1 (by have := hp1.2.1; omega) rfl (xX4_at x p1 p2 _ _ hp1 hp2 h) rfl ml_X8_42 (xRoom (Nat.le_of_ble_eq_true rfl)) (Nat.le_of_ble_eq_true rfl) dX8_scoreOf_55 (fun r13 μ11 i14 n12 h => ?_)
    have h := h i14 n12
    refine x_callVi (As := [iV r13]) (rest := [iV r9]) cal_X2_valueOf ins_X2_valueOf sel_X2_valueOf ly39 (by decide) rfl (xX2_valueOf x 39 r13 _ _ isHouse_39 i14 h) rfl ml_X8_79 (xRoom (Nat.le_of_ble_eq_true rfl)) (Nat.le_of_ble_eq_true rfl) dX8_scoreOf_58 (fun r17 μ15 i18 n16 h => ?_)
    have h := h i18 n16
    refine x_isub dX8_scoreOf_61 ?_
    obtain ⟨c19, h⟩ := h
    exact x_iret h c19 rfl dX8_scoreOf_62
  by_cases k26 : (μ p1 0) = 3
  · refine x_tabIn (tgt := 63) 2 r1 (by omega) (by decide) rfl (by decide) dX8_scoreOf_4 ?_
    have h := h.2.2.1 k26
    refine x_iconst dX8_scoreOf_63 ?_
    refine x_aload_n 0 rfl dX8_scoreOf_64 ?_
    refine x_getR (j := 2) (r := 232) ly235 (by decide) rfl rfl (by decide) inT8 fl_X8_19 dX8_scoreOf_65 ?_
    refine x_aload_n 1 rfl dX8_scoreOf_68 ?_
    refine x_iload_n 2 rfl dX8_scoreOf_69 ?_
    refine x_iload_n 3 rfl dX8_scoreOf_70 ?_
    refine x_callVi (As := [.ref (x.2.2.1 + p1), iV p2, iV p3]) (rest := [iV 1]) cal_X0_behindNext ins_X0_behindNext sel_X0_behindNext ly232 (by decide) rfl (xX0_behindNext x p1 p2 p3 _ _ hp1 hp2 hp3 h) rfl ml_X8_64 (xRoom (Nat.le_of_ble_eq_true rfl)) (Nat.le_of_ble_eq_true rfl) dX8_scoreOf_71 (fun r23 μ21 i24 n22 h => ?_)
    have h := h i24 n22
    refine x_iadd dX8_scoreOf_74 ?_
    obtain ⟨c25, h⟩ := h
    exact x_iret h c25 rfl dX8_scoreOf_75
  have k27 : (μ p1 0) < 1 ∨ 3 < (μ p1 0) := by omega
  refine x_tabOut (tgt := 76) r1 k27 (by decide) dX8_scoreOf_4 ?_
  have h := h.2.2.2 k27
  refine x_iconst dX8_scoreOf_76 ?_
  exact x_iret h ⟨by decide, by decide⟩ rfl dX8_scoreOf_77
set_option maxRecDepth 100000 in
set_option maxHeartbeats 4000000 in
theorem xX8_receive (x : xX) (p1 : Nat) (μ : xM) (Q : xM → Prop) (hp1 : isNight p1) (h : tX8_receive p1 μ Q) : xMet x 33 yX8_receive cX8_receive 10 none [.ref (x.2.2.1 + 235), .ref (x.2.2.1 + p1)] μ (xQv x Q) := by
  refine xMet_of (by decide +kernel) (Nat.le_of_ble_eq_true rfl) ?_
  show xW x (xRm 33, RX8, cX8_receive, 10, none, fun _ _ => True) (xQv x Q) 0 [(0, .ref (x.2.2.1 + 235)), (1, .ref (x.2.2.1 + p1))] [] μ
  refine x_ran (fun n0 => ?_)
  have h := h n0 
  refine x_aload_n 0 rfl dX8_receive_0 ?_
  refine x_getR (j := 0) (r := 39) ly235 (by decide) rfl rfl (by decide) inT8 fl_X8_9 dX8_receive_1 ?_
  refine x_aload_n 1 rfl dX8_receive_4 ?_
  refine x_getI (j := 1) hp1.1 (by have := hp1.2.1; omega) rfl rfl (by decide) inT4 fl_X8_23 dX8_receive_5 (fun r1 => ?_)
  refine x_callVz (As := [iV (μ p1 1)]) (rest := []) cal_X2_isGuest ins_X2_isGuest sel_X2_isGuest ly39 (by decide) rfl (xX2_isGuest x 39 (μ p1 1) _ _ isHouse_39 r1 h) rfl ml_X8_29 (xRoom (Nat.le_of_ble_eq_true rfl)) (Nat.le_of_ble_eq_true rfl) dX8_receive_8 (fun r4 μ2 i5 n3 h => ?_)
  have h := h i5 n3
  refine x_ifne (tgt := 15) (xIz i5)  dX8_receive_11 (by decide) (fun k6 => ?_) (fun k6 => ?_)
  · have h := h.1 (xz1 i5 k6)
    refine x_aload_n 0 rfl dX8_receive_15 ?_
    refine x_getR (j := 0) (r := 39) ly235 (by decide) rfl rfl (by decide) inT8 fl_X8_9 dX8_receive_16 ?_
    refine x_aload_n 1 rfl dX8_receive_19 ?_
    refine x_getI (j := 1) hp1.1 (by have := hp1.2.1; omega) rfl rfl (by decide) inT4 fl_X8_23 dX8_receive_20 (fun r7 => ?_)
    refine x_callVi (As := [iV (μ2 p1 1)]) (rest := []) cal_X2_firstOf ins_X2_firstOf sel_X2_firstOf ly39 (by decide) rfl (xX2_firstOf x 39 (μ2 p1 1) _ _ isHouse_39 r7 h) rfl ml_X8_35 (xRoom (Nat.le_of_ble_eq_true rfl)) (Nat.le_of_ble_eq_true rfl) dX8_receive_23 (fun r10 μ8 i11 n9 h => ?_)
    have h := h i11 n9
    refine x_istore_n [(2, iV r10), (0, .ref (x.2.2.1 + 235)), (1, .ref (x.2.2.1 + p1))] dX8_receive_26 (show 2 < 10 by decide) rfl ?_
    refine x_iconst dX8_receive_27 ?_
    refine x_istore_n [(3, iV (-1)), (2, iV r10), (0, .ref (x.2.2.1 + 235)), (1, .ref (x.2.2.1 + p1))] dX8_receive_28 (show 3 < 10 by decide) rfl ?_
    refine x_iconst dX8_receive_29 ?_
    refine x_istore [(4, iV (-1)), (3, iV (-1)), (2, iV r10), (0, .ref (x.2.2.1 + 235)), (1, .ref (x.2.2.1 + p1))] dX8_receive_30 (show 4 < 10 by decide) rfl ?_
    refine x_iconst dX8_receive_32 ?_
    refine x_istore [(5, iV 0), (4, iV (-1)), (3, iV (-1)), (2, iV r10), (0, .ref (x.2.2.1 + 235)), (1, .ref (x.2.2.1 + p1))] dX8_receive_33 (show 5 < 10 by decide) rfl ?_
    refine x_iconst dX8_receive_35 ?_
    refine x_istore [(6, iV 0), (5, iV 0), (4, iV (-1)), (3, iV (-1)), (2, iV r10), (0, .ref (x.2.2.1 + 235)), (1, .ref (x.2.2.1 + p1))] dX8_receive_36 (show 6 < 10 by decide) rfl ?_
    refine x_sub [5, 6, 4, 3, 2, 1, 0] rfl ?_
    refine x_loop4 (fun l3_12 l4_13 l5_14 l6_15 => [(0, .ref (x.2.2.1 + 235)), (1, .ref (x.2.2.1 + p1)), (2, iV r10), (3, iV l3_12), (4, iV l4_13), (5, iV l5_14), (6, iV l6_15)]) h (fun J38 l3_12 l4_13 l5_14 l6_15 μ16 hJ38 h n17 => ?_)
    refine x_iload 6 rfl dX8_receive_38 ?_
    refine x_aload_n 0 rfl dX8_receive_40 ?_
    refine x_getR (j := 0) (r := 39) ly235 (by decide) rfl rfl (by decide) inT8 fl_X8_9 dX8_receive_41 ?_
    refine x_getI (j := 0) ly39 (by decide) rfl rfl (by decide) inT2 fl_X8_39 dX8_receive_44 (fun r18 => ?_)
    obtain ⟨c19, h⟩ := h
    refine x_icmpge (tgt := 153) c19 r18 dX8_receive_47 (by decide) (fun k20 => ?_) (fun k20 => ?_)
    · have h := h.1 k20
      refine x_iload_n 3 rfl dX8_receive_153 ?_
      obtain ⟨c21, h⟩ := h
      refine x_iflt (tgt := 181) c21  dX8_receive_154 (by decide) (fun k22 => ?_) (fun k22 => ?_)
      · have h := h.1 k22
        refine x_aload_n 1 rfl dX8_receive_181 ?_
        refine x_callVv (As := []) (rest := []) cal_X4_leaveStanding ins_X4_leaveStanding sel_X4_leaveStanding hp1.1 (by have := hp1.2.1; omega) rfl (xX4_leaveStanding x p1 _ _ hp1 h) rfl ml_X8_69 (xRoom (Nat.le_of_ble_eq_true rfl)) (Nat.le_of_ble_eq_true rfl) dX8_receive_182 (fun μ23 n24 h => ?_)
        have h := h n24
        refine x_goto (tgt := 195) dX8_receive_185 (by decide) ?_
        exact x_vret h rfl dX8_receive_195
      · have h := h.2 k22
        refine x_aload_n 1 rfl dX8_receive_157 ?_
        refine x_getI (j := 0) hp1.1 (by have := hp1.2.1; omega) rfl rfl (by decide) inT4 fl_X8_61 dX8_receive_158 (fun r25 => ?_)
        refine x_iconst dX8_receive_161 ?_
        refine x_icmpne (tgt := 188) r25 ⟨by decide, by decide⟩ dX8_receive_162 (by decide) (fun k26 => ?_) (fun k26 => ?_)
        · have h := h.1 k26
          refine x_aload_n 1 rfl dX8_receive_188 ?_
          refine x_iload_n 3 rfl dX8_receive_189 ?_
          refine x_iload 4 rfl dX8_receive_190 ?_
          obtain ⟨c27, h⟩ := h
          refine x_callVv (As := [iV l3_12, iV l4_13]) (rest := []) cal_X4_sitDown ins_X4_sitDown sel_X4_sitDown hp1.1 (by have := hp1.2.1; omega) rfl (xX4_sitDown x p1 l3_12 l4_13 _ _ hp1 c21 c27 h) rfl ml_X8_72 (xRoom (Nat.le_of_ble_eq_true rfl)) (Nat.le_of_ble_eq_true rfl) dX8_receive_192 (fun μ28 n29 h => ?_)
          have h := h n29
          exact x_vret h rfl dX8_receive_195
        · have h := h.2 k26
          refine x_aload_n 0 rfl dX8_receive_165 ?_
          refine x_getR (j := 2) (r := 232) ly235 (by decide) rfl rfl (by decide) inT8 fl_X8_19 dX8_receive_166 ?_
          refine x_aload_n 1 rfl dX8_receive_169 ?_
          refine x_iconst dX8_receive_170 ?_
          refine x_bipush dX8_receive_171 (by decide) ?_
          refine x_callVi (As := [.ref (x.2.2.1 + p1), iV (-1), iV 24]) (rest := []) cal_X0_behindNext ins_X0_behindNext sel_X0_behindNext ly232 (by decide) rfl (xX0_behindNext x p1 (-1) 24 _ _ hp1 ⟨by decide, by decide⟩ ⟨by decide, by decide⟩ h) rfl ml_X8_64 (xRoom (Nat.le_of_ble_eq_true rfl)) (Nat.le_of_ble_eq_true rfl) dX8_receive_173 (fun r32 μ30 i33 n31 h => ?_)
          have h := h i33 n31
          refine x_iload 5 rfl dX8_receive_176 ?_
          obtain ⟨c34, h⟩ := h
          refine x_icmple (tgt := 188) i33 c34 dX8_receive_178 (by decide) (fun k35 => ?_) (fun k35 => ?_)
          · have h := h.1 k35
            refine x_aload_n 1 rfl dX8_receive_188 ?_
            refine x_iload_n 3 rfl dX8_receive_189 ?_
            refine x_iload 4 rfl dX8_receive_190 ?_
            obtain ⟨c36, h⟩ := h
            refine x_callVv (As := [iV l3_12, iV l4_13]) (rest := []) cal_X4_sitDown ins_X4_sitDown sel_X4_sitDown hp1.1 (by have := hp1.2.1; omega) rfl (xX4_sitDown x p1 l3_12 l4_13 _ _ hp1 c21 c36 h) rfl ml_X8_72 (xRoom (Nat.le_of_ble_eq_true rfl)) (Nat.le_of_ble_eq_true rfl) dX8_receive_192 (fun μ37 n38 h => ?_)
            have h := h n38
            exact x_vret h rfl dX8_receive_195
          · have h := h.2 k35
            refine x_aload_n 1 rfl dX8_receive_181 ?_
            refine x_callVv (As := []) (rest := []) cal_X4_leaveStanding ins_X4_leaveStanding sel_X4_leaveStanding hp1.1 (by have := hp1.2.1; omega) rfl (xX4_leaveStanding x p1 _ _ hp1 h) rfl ml_X8_69 (xRoom (Nat.le_of_ble_eq_true rfl)) (Nat.le_of_ble_eq_true rfl) dX8_receive_182 (fun μ39 n40 h => ?_)
            have h := h n40
            refine x_goto (tgt := 195) dX8_receive_185 (by decide) ?_
            exact x_vret h rfl dX8_receive_195
    · have h := h.2 k20
      refine x_aload_n 1 rfl dX8_receive_50 ?_
      refine x_iload 6 rfl dX8_receive_51 ?_
      refine x_callVi (As := [iV l6_15]) (rest := []) cal_X4_at ins_X4_at sel_X4_at hp1.1 (by have := hp1.2.1; omega) rfl (xX4_at x p1 l6_15 _ _ hp1 c19 h) rfl ml_X8_42 (xRoom (Nat.le_of_ble_eq_true rfl)) (Nat.le_of_ble_eq_true rfl) dX8_receive_53 (fun r43 μ41 i44 n42 h => ?_)
      have h := h i44 n42
      refine x_istore [(7, iV r43), (0, .ref (x.2.2.1 + 235)), (1, .ref (x.2.2.1 + p1)), (2, iV r10), (3, iV l3_12), (4, iV l4_13), (5, iV l5_14), (6, iV l6_15)] dX8_receive_56 (show 7 < 10 by decide) rfl ?_
      refine x_iconst dX8_receive_58 ?_
      refine x_istore [(8, iV 0), (7, iV r43), (0, .ref (x.2.2.1 + 235)), (1, .ref (x.2.2.1 + p1)), (2, iV r10), (3, iV l3_12), (4, iV l4_13), (5, iV l5_14), (6, iV l6_15)] dX8_receive_59 (show 8 < 10 by decide) rfl ?_
      refine x_sub [2, 3, 4, 5, 6, 7, 8, 1, 0] rfl ?_
      refine x_loop4 (fun l3_45 l4_46 l5_47 l8_48 => [(0, .ref (x.2.2.1 + 235)), (1, .ref (x.2.2.1 + p1)), (2, iV r10), (3, iV l3_45), (4, iV l4_46), (5, iV l5_47), (6, iV l6_15), (7, iV r43), (8, iV l8_48)]) h (fun J61 l3_45 l4_46 l5_47 l8_48 μ49 hJ61 h n50 => ?_)
      refine x_iload 8 rfl dX8_receive_61 ?_
      refine x_aload_n 0 rfl dX8_receive_63 ?_
      refine x_getR (j := 1) (r := 73) ly235 (by decide) rfl rfl (by decide) inT8 fl_X8_15 dX8_receive_64 ?_
      refine x_iload 7 rfl dX8_receive_67 ?_
      refine x_callVi (As := [iV r43]) (rest := [iV l8_48]) cal_X1_ups ins_X1_ups sel_X1_ups ly73 (by decide) rfl (xX1_ups x r43 _ _ i44 h) rfl ml_X8_45 (xRoom (Nat.le_of_ble_eq_true rfl)) (Nat.le_of_ble_eq_true rfl) dX8_receive_69 (fun r53 μ51 i54 n52 h => ?_)
      have h := h i54 n52
      obtain ⟨c55, h⟩ := h
      refine x_icmpge (tgt := 147) c55 i54 dX8_receive_72 (by decide) (fun k56 => ?_) (fun k56 => ?_)
      · have h := h.1 k56
        refine x_iinc 6 rfl [(6, iV (l6_15 + 1)), (0, .ref (x.2.2.1 + 235)), (1, .ref (x.2.2.1 + p1)), (2, iV r10), (3, iV l3_45), (4, iV l4_46), (5, iV l5_47), (7, iV r43), (8, iV l8_48)] dX8_receive_147 (show 6 < 10 by decide) rfl ?_
        refine x_goto (tgt := 38) dX8_receive_150 (by decide) ?_
        exact x_sub [1, 2, 3, 4, 5, 6, 0] rfl (hJ38 _ _ _ _ _ h)
      · have h := h.2 k56
        refine x_aload_n 0 rfl dX8_receive_75 ?_
        refine x_getR (j := 1) (r := 73) ly235 (by decide) rfl rfl (by decide) inT8 fl_X8_15 dX8_receive_76 ?_
        refine x_iload 7 rfl dX8_receive_79 ?_
        refine x_iload 8 rfl dX8_receive_81 ?_
        refine x_callVi (As := [iV r43, iV l8_48]) (rest := []) cal_X1_byOf ins_X1_byOf sel_X1_byOf ly73 (by decide) rfl (xX1_byOf x r43 l8_48 _ _ i44 c55 h) rfl ml_X8_50 (xRoom (Nat.le_of_ble_eq_true rfl)) (Nat.le_of_ble_eq_true rfl) dX8_receive_83 (fun r59 μ57 i60 n58 h => ?_)
        have h := h i60 n58
        refine x_iload_n 2 rfl dX8_receive_86 ?_
        refine x_icmpne (tgt := 141) i60 i11 dX8_receive_87 (by decide) (fun k61 => ?_) (fun k61 => ?_)
        · have h := h.1 k61
          refine x_iinc 8 rfl [(8, iV (l8_48 + 1)), (0, .ref (x.2.2.1 + 235)), (1, .ref (x.2.2.1 + p1)), (2, iV r10), (3, iV l3_45), (4, iV l4_46), (5, iV l5_47), (6, iV l6_15), (7, iV r43)] dX8_receive_141 (show 8 < 10 by decide) rfl ?_
          refine x_goto (tgt := 61) dX8_receive_144 (by decide) ?_
          exact x_sub [1, 2, 3, 4, 5, 6, 7, 8, 0] rfl (hJ61 _ _ _ _ _ h)
        · have h := h.2 k61
          refine x_aload_n 0 rfl dX8_receive_90 ?_
          refine x_aload_n 1 rfl dX8_receive_91 ?_
          refine x_iload 6 rfl dX8_receive_92 ?_
          refine x_aload_n 0 rfl dX8_receive_94 ?_
          refine x_getR (j := 1) (r := 73) ly235 (by decide) rfl rfl (by decide) inT8 fl_X8_15 dX8_receive_95 ?_
          refine x_iload 7 rfl dX8_receive_98 ?_
          refine x_iload 8 rfl dX8_receive_100 ?_
          refine x_callVi (As := [iV r43, iV l8_48]) (rest := [iV l6_15, .ref (x.2.2.1 + p1), .ref (x.2.2.1 + 235)]) cal_X1_upOf ins_X1_upOf sel_X1_upOf ly73 (by decide) rfl (xX1_upOf x r43 l8_48 _ _ i44 c55 h) rfl ml_X8_54 (xRoom (Nat.le_of_ble_eq_true rfl)) (Nat.le_of_ble_eq_true rfl) dX8_receive_102 (fun r64 μ62 i65 n63 h => ?_)
          have h := h i65 n63
          obtain ⟨c66, h⟩ := h
          refine x_callVi (As := [.ref (x.2.2.1 + p1), iV l6_15, iV r64]) (rest := []) cal_X8_scoreOf ins_X8_scoreOf sel_X8_scoreOf ly235 (by decide) rfl (xX8_scoreOf x p1 l6_15 r64 _ _ hp1 c66 i65 h) rfl ml_X8_57 (xRoom (Nat.le_of_ble_eq_true rfl)) (Nat.le_of_ble_eq_true rfl) dX8_receive_105 (fun r69 μ67 i70 n68 h => ?_)
          have h := h i70 n68
          refine x_istore [(9, iV r69), (0, .ref (x.2.2.1 + 235)), (1, .ref (x.2.2.1 + p1)), (2, iV r10), (3, iV l3_45), (4, iV l4_46), (5, iV l5_47), (6, iV l6_15), (7, iV r43), (8, iV l8_48)] dX8_receive_108 (show 9 < 10 by decide) rfl ?_
          refine x_iload_n 4 rfl dX8_receive_110 ?_
          obtain ⟨c71, h⟩ := h
          refine x_iflt (tgt := 121) c71  dX8_receive_111 (by decide) (fun k72 => ?_) (fun k72 => ?_)
          · have h := h.1 k72
            refine x_iload 7 rfl dX8_receive_121 ?_
            refine x_istore_n [(3, iV l6_15), (9, iV r69), (0, .ref (x.2.2.1 + 235)), (1, .ref (x.2.2.1 + p1)), (2, iV r10), (4, iV l4_46), (5, iV l5_47), (6, iV l6_15), (7, iV r43), (8, iV l8_48)] dX8_receive_123 (show 3 < 10 by decide) rfl ?_
            refine x_aload_n 2 rfl dX8_receive_124 ?_
            refine x_getR (j := 1) (r := 73) ly235 (by decide) rfl rfl (by decide) inT8 fl_X8_15 dX8_receive_125 ?_
            refine x_iload 8 rfl dX8_receive_128 ?_
            refine x_iload 9 rfl dX8_receive_130 ?_
            refine x_callVi (As := [iV r43, iV l8_48]) (rest := []) cal_X1_upOf ins_X1_upOf sel_X1_upOf ly73 (by decide) rfl (xX1_upOf x r43 l8_48 _ _ i44 c55 h) rfl ml_X8_54 (xRoom (Nat.le_of_ble_eq_true rfl)) (Nat.le_of_ble_eq_true rfl) dX8_receive_132 (fun r75 μ73 i76 n74 h => ?_)
            have h := h i76 n74
            refine x_istore [(4, iV r75), (3, iV l6_15), (9, iV r69), (0, .ref (x.2.2.1 + 235)), (1, .ref (x.2.2.1 + p1)), (2, iV r10), (5, iV l5_47), (6, iV l6_15), (7, iV r43), (8, iV l8_48)] dX8_receive_135 (show 4 < 10 by decide) rfl ?_
            refine x_iload 2 rfl dX8_receive_137 ?_
            refine x_istore [(5, iV r69), (4, iV r75), (3, iV l6_15), (9, iV r69), (0, .ref (x.2.2.1 + 235)), (1, .ref (x.2.2.1 + p1)), (2, iV r10), (6, iV l6_15), (7, iV r43), (8, iV l8_48)] dX8_receive_139 (show 5 < 10 by decide) rfl ?_
            refine x_iinc 9 rfl [(8, iV (l8_48 + 1)), (5, iV r69), (4, iV r75), (3, iV l6_15), (9, iV r69), (0, .ref (x.2.2.1 + 235)), (1, .ref (x.2.2.1 + p1)), (2, iV r10), (6, iV l6_15), (7, iV r43)] dX8_receive_141 (show 8 < 10 by decide) rfl ?_
            refine x_goto (tgt := 61) dX8_receive_144 (by decide) ?_
            exact x_sub [5, 6, 7, 3, 2, 1, 8, 9, 0] rfl (hJ61 _ _ _ _ _ h)
          · have h := h.2 k72
            refine x_iload 0 rfl dX8_receive_114 ?_
            refine x_iload 6 rfl dX8_receive_116 ?_
            obtain ⟨c77, h⟩ := h
            refine x_icmple (tgt := 141) i70 c77 dX8_receive_118 (by decide) (fun k78 => ?_) (fun k78 => ?_)
            · have h := h.1 k78
              refine x_iinc 9 rfl [(8, iV (l8_48 + 1)), (9, iV r69), (0, .ref (x.2.2.1 + 235)), (1, .ref (x.2.2.1 + p1)), (2, iV r10), (3, iV l3_45), (4, iV l4_46), (5, iV l5_47), (6, iV l6_15), (7, iV r43)] dX8_receive_141 (show 8 < 10 by decide) rfl ?_
              refine x_goto (tgt := 61) dX8_receive_144 (by decide) ?_
              exact x_sub [2, 3, 4, 5, 6, 7, 8, 9, 0] rfl (hJ61 _ _ _ _ _ h)
            · have h := h.2 k78
              refine x_iload 7 rfl dX8_receive_121 ?_
              refine x_istore_n [(3, iV l6_15), (9, iV r69), (0, .ref (x.2.2.1 + 235)), (1, .ref (x.2.2.1 + p1)), (2, iV r10), (4, iV l4_46), (5, iV l5_47), (6, iV l6_15), (7, iV r43), (8, iV l8_48)] dX8_receive_123 (show 3 < 10 by decide) rfl ?_
              refine x_aload_n 2 rfl dX8_receive_124 ?_
              refine x_getR (j := 1) (r := 73) ly235 (by decide) rfl rfl (by decide) inT8 fl_X8_15 dX8_receive_125 ?_
              refine x_iload 8 rfl dX8_receive_128 ?_
              refine x_iload 9 rfl dX8_receive_130 ?_
              refine x_callVi (As := [iV r43, iV l8_48]) (rest := []) cal_X1_upOf ins_X1_upOf sel_X1_upOf ly73 (by decide) rfl (xX1_upOf x r43 l8_48 _ _ i44 c55 h) rfl ml_X8_54 (xRoom (Nat.le_of_ble_eq_true rfl)) (Nat.le_of_ble_eq_true rfl) dX8_receive_132 (fun r81 μ79 i82 n80 h => ?_)
              have h := h i82 n80
              refine x_istore [(4, iV r81), (3, iV l6_15), (9, iV r69), (0, .ref (x.2.2.1 + 235)), (1, .ref (x.2.2.1 + p1)), (2, iV r10), (5, iV l5_47), (6, iV l6_15), (7, iV r43), (8, iV l8_48)] dX8_receive_135 (show 4 < 10 by decide) rfl ?_
              refine x_iload 2 rfl dX8_receive_137 ?_
              refine x_istore [(5, iV r69), (4, iV r81), (3, iV l6_15), (9, iV r69), (0, .ref (x.2.2.1 + 235)), (1, .ref (x.2.2.1 + p1)), (2, iV r10), (6, iV l6_15), (7, iV r43), (8, iV l8_48)] dX8_receive_139 (show 5 < 10 by decide) rfl ?_
              refine x_iinc 9 rfl [(8, iV (l8_48 + 1)), (5, iV r69), (4, iV r81), (3, iV l6_15), (9, iV r69), (0, .ref (x.2.2.1 + 235)), (1, .ref (x.2.2.1 + p1)), (2, iV r10), (6, iV l6_15), (7, iV r43)] dX8_receive_141 (show 8 < 10 by decide) rfl ?_
              refine x_goto (tgt := 61) dX8_receive_144 (by decide) ?_
              exact x_sub [5, 6, 7, 3, 2, 1, 8, 9, 0] rfl (hJ61 _ _ _ _ _ h)
  · have h := h.2 k6
    exact x_vret h rfl dX8_receive_14
set_option maxRecDepth 100000 in
set_option maxHeartbeats 4000000 in
theorem xX9_addLetter (x : xX) (o : Nat) (p1 : Int) (μ : xM) (Q : xM → Prop) (ho : isSurvey o) (hp1 : xIn p1) (h : tX9_addLetter o p1 μ Q) : xMet x 1 yX9_addLetter cX9_addLetter 2 none [.ref (x.2.2.1 + o), iV p1] μ (xQv x Q) := by
  refine xMet_of (by decide +kernel) (Nat.le_of_ble_eq_true rfl) ?_
  show xW x (xRm 1, RX9, cX9_addLetter, 2, none, fun _ _ => True) (xQv x Q) 0 [(0, .ref (x.2.2.1 + o)), (1, iV p1)] [] μ
  refine x_ran (fun n0 => ?_)
  have h := h n0 hp1
  refine x_iload_n 1 rfl dX9_addLetter_0 ?_
  refine x_iflt (tgt := 30) hp1  dX9_addLetter_1 (by decide) (fun k1 => ?_) (fun k1 => ?_)
  · have h := h.1 k1
    exact x_vret h rfl dX9_addLetter_30
  · have h := h.2 k1
    refine x_iload_n 1 rfl dX9_addLetter_4 ?_
    refine x_bipush dX9_addLetter_5 (by decide) ?_
    refine x_icmpge (tgt := 30) hp1 ⟨by decide, by decide⟩ dX9_addLetter_7 (by decide) (fun k2 => ?_) (fun k2 => ?_)
    · have h := h.1 k2
      exact x_vret h rfl dX9_addLetter_30
    · have h := h.2 k2
      refine x_aload_n 0 rfl dX9_addLetter_10 ?_
      refine x_getR (j := 7) (r := o + 1) ho.1 (by have := ho.2.1; omega) rfl rfl (by decide) inT9 fl_X9_9 dX9_addLetter_11 ?_
      refine x_iload_n 1 rfl dX9_addLetter_14 ?_
      refine x_dup2 rfl rfl dX9_addLetter_15 ?_
      obtain ⟨c3, h⟩ := h
      refine x_iald ho.2.2.1 c3.1 c3.2 hp1 (by have := ho.2.1; omega) dX9_addLetter_16 (fun r4 => ?_)
      refine x_iconst dX9_addLetter_17 ?_
      refine x_iadd dX9_addLetter_18 ?_
      obtain ⟨c5, h⟩ := h
      refine x_iast ho.2.2.1 c3.1 c3.2 hp1 c5 (by have := ho.2.1; omega) dX9_addLetter_19 (fun μ6 e8 n7 => ?_)
      have h := h μ6 e8 n7
      refine x_aload_n 0 rfl dX9_addLetter_20 ?_
      refine x_dup rfl dX9_addLetter_21 ?_
      refine x_getI (j := 13) ho.1 (by have := ho.2.1; omega) rfl rfl (by decide) inT9 fl_X9_34 dX9_addLetter_22 (fun r9 => ?_)
      refine x_iconst dX9_addLetter_25 ?_
      refine x_iadd dX9_addLetter_26 ?_
      obtain ⟨c10, h⟩ := h
      refine x_putI (j := 13) ho.1 (by have := ho.2.1; omega) rfl rfl (by decide) inT9 fl_X9_34 tyX9 tyX9_ok nmX9 rfl c10 (by decide +kernel) dX9_addLetter_27 (fun μ11 e13 n12 => ?_)
      have h := h μ11 e13 n12
      exact x_vret h rfl dX9_addLetter_30
set_option maxRecDepth 100000 in
set_option maxHeartbeats 4000000 in
theorem xX9_gather (x : xX) (o : Nat) (p1 : Int) (μ : xM) (Q : xM → Prop) (ho : isSurvey o) (hp1 : xIn p1) (h : tX9_gather o p1 μ Q) : xMet x 3 yX9_gather cX9_gather 3 none [.ref (x.2.2.1 + o), iV p1] μ (xQv x Q) := by
  refine xMet_of (by decide +kernel) (Nat.le_of_ble_eq_true rfl) ?_
  show xW x (xRm 3, RX9, cX9_gather, 3, none, fun _ _ => True) (xQv x Q) 0 [(0, .ref (x.2.2.1 + o)), (1, iV p1)] [] μ
  refine x_ran (fun n0 => ?_)
  have h := h n0 hp1
  refine x_aload_n 0 rfl dX9_gather_0 ?_
  refine x_getR (j := 7) (r := o + 1) ho.1 (by have := ho.2.1; omega) rfl rfl (by decide) inT9 fl_X9_9 dX9_gather_1 ?_
  refine x_iconst dX9_gather_4 ?_
  refine x_callSv (As := [.ref (x.2.2.1 + (o + 1)), iV 0]) (rest := []) cal_J7_fill_53178 sta_J7_fill_53178 (xJ7_fill_53178 x (o + 1) 26 0 _ _ ⟨ho.2.2.1, (by have := ho.2.1; omega), (by decide)⟩ ⟨by decide, by decide⟩ h) rfl ml_X9_28 (xRoom (Nat.le_of_ble_eq_true rfl)) (Nat.le_of_ble_eq_true rfl) dX9_gather_5 (fun μ1 n2 h => ?_)
  have h := h n2
  refine x_aload_n 0 rfl dX9_gather_8 ?_
  refine x_iconst dX9_gather_9 ?_
  refine x_putI (j := 13) ho.1 (by have := ho.2.1; omega) rfl rfl (by decide) inT9 fl_X9_34 tyX9 tyX9_ok nmX9 rfl ⟨by decide, by decide⟩ (by decide +kernel) dX9_gather_10 (fun μ3 e5 n4 => ?_)
  have h := h μ3 e5 n4
  refine x_iconst dX9_gather_13 ?_
  refine x_istore_n [(2, iV 0), (0, .ref (x.2.2.1 + o)), (1, iV p1)] dX9_gather_14 (show 2 < 3 by decide) rfl ?_
  refine x_sub [1, 2, 0] rfl ?_
  refine x_loop1 (fun l2_6 => [(0, .ref (x.2.2.1 + o)), (1, iV p1), (2, iV l2_6)]) h (fun J15 l2_6 μ7 hJ15 h n8 => ?_)
  refine x_iload_n 2 rfl dX9_gather_15 ?_
  refine x_aload_n 0 rfl dX9_gather_16 ?_
  refine x_getR (j := 6) (r := 39) ho.1 (by have := ho.2.1; omega) rfl rfl (by decide) inT9 fl_X9_24 dX9_gather_17 ?_
  refine x_getI (j := 4) ly39 (by decide) rfl rfl (by decide) inT2 fl_X9_38 dX9_gather_20 (fun r9 => ?_)
  obtain ⟨c10, h⟩ := h
  refine x_icmpge (tgt := 44) c10 r9 dX9_gather_23 (by decide) (fun k11 => ?_) (fun k11 => ?_)
  · have h := h.1 k11
    refine x_aload_n 0 rfl dX9_gather_44 ?_
    refine x_iload_n 1 rfl dX9_gather_45 ?_
    refine x_callVv (As := [iV p1]) (rest := []) cal_X9_addLetter ins_X9_addLetter sel_X9_addLetter ho.1 (by have := ho.2.1; omega) rfl (xX9_addLetter x o p1 _ _ ho hp1 h) rfl ml_X9_47 (xRoom (Nat.le_of_ble_eq_true rfl)) (Nat.le_of_ble_eq_true rfl) dX9_gather_46 (fun μ12 n13 h => ?_)
    have h := h n13
    refine x_aload_n 0 rfl dX9_gather_49 ?_
    refine x_iconst dX9_gather_50 ?_
    refine x_putI (j := 12) ho.1 (by have := ho.2.1; omega) rfl rfl (by decide) inT9 fl_X9_51 tyX9 tyX9_ok nmX9 rfl ⟨by decide, by decide⟩ (by decide +kernel) dX9_gather_51 (fun μ14 e16 n15 => ?_)
    have h := h μ14 e16 n15
    refine x_aload_n 0 rfl dX9_gather_54 ?_
    refine x_iconst dX9_gather_55 ?_
    refine x_putI (j := 14) ho.1 (by have := ho.2.1; omega) rfl rfl (by decide) inT9 fl_X9_54 tyX9 tyX9_ok nmX9 rfl ⟨by decide, by decide⟩ (by decide +kernel) dX9_gather_56 (fun μ17 e19 n18 => ?_)
    have h := h μ17 e19 n18
    refine x_aload_n 0 rfl dX9_gather_59 ?_
    refine x_iconst dX9_gather_60 ?_
    refine x_putI (j := 15) ho.1 (by have := ho.2.1; omega) rfl rfl (by decide) inT9 fl_X9_57 tyX9 tyX9_ok nmX9 rfl ⟨by decide, by decide⟩ (by decide +kernel) dX9_gather_61 (fun μ20 e22 n21 => ?_)
    have h := h μ20 e22 n21
    refine x_aload_n 0 rfl dX9_gather_64 ?_
    refine x_iconst dX9_gather_65 ?_
    refine x_putI (j := 17) ho.1 (by have := ho.2.1; omega) rfl rfl (by decide) inT9 fl_X9_60 tyX9 tyX9_ok nmX9 rfl ⟨by decide, by decide⟩ (by decide +kernel) dX9_gather_66 (fun μ23 e25 n24 => ?_)
    have h := h μ23 e25 n24
    refine x_aload_n 0 rfl dX9_gather_69 ?_
    refine x_getR (j := 10) (r := o + 4) ho.1 (by have := ho.2.1; omega) rfl rfl (by decide) inT9 fl_X9_21 dX9_gather_70 ?_
    refine x_bipush dX9_gather_73 (by decide) ?_
    refine x_callSv (As := [.ref (x.2.2.1 + (o + 4)), iV 24]) (rest := []) cal_J7_fill_53178 sta_J7_fill_53178 (xJ7_fill_53178 x (o + 4) 3 24 _ _ ⟨ho.2.2.2.2.2, (by have := ho.2.1; omega), (by decide)⟩ ⟨by decide, by decide⟩ h) rfl ml_X9_28 (xRoom (Nat.le_of_ble_eq_true rfl)) (Nat.le_of_ble_eq_true rfl) dX9_gather_75 (fun μ26 n27 h => ?_)
    have h := h n27
    exact x_vret h rfl dX9_gather_78
  · have h := h.2 k11
    refine x_aload_n 0 rfl dX9_gather_26 ?_
    refine x_aload_n 0 rfl dX9_gather_27 ?_
    refine x_getR (j := 6) (r := 39) ho.1 (by have := ho.2.1; omega) rfl rfl (by decide) inT9 fl_X9_24 dX9_gather_28 ?_
    refine x_iload_n 2 rfl dX9_gather_31 ?_
    refine x_callVi (As := [iV l2_6]) (rest := [.ref (x.2.2.1 + o)]) cal_X2_firstOf ins_X2_firstOf sel_X2_firstOf ly39 (by decide) rfl (xX2_firstOf x 39 l2_6 _ _ isHouse_39 c10 h) rfl ml_X9_43 (xRoom (Nat.le_of_ble_eq_true rfl)) (Nat.le_of_ble_eq_true rfl) dX9_gather_32 (fun r30 μ28 i31 n29 h => ?_)
    have h := h i31 n29
    refine x_callVv (As := [iV r30]) (rest := []) cal_X9_addLetter ins_X9_addLetter sel_X9_addLetter ho.1 (by have := ho.2.1; omega) rfl (xX9_addLetter x o r30 _ _ ho i31 h) rfl ml_X9_47 (xRoom (Nat.le_of_ble_eq_true rfl)) (Nat.le_of_ble_eq_true rfl) dX9_gather_35 (fun μ32 n33 h => ?_)
    have h := h n33
    refine x_iinc 2 rfl [(2, iV (l2_6 + 1)), (0, .ref (x.2.2.1 + o)), (1, iV p1)] dX9_gather_38 (show 2 < 3 by decide) rfl ?_
    refine x_goto (tgt := 15) dX9_gather_41 (by decide) ?_
    exact x_sub [1, 2, 0] rfl (hJ15 _ _ h)
set_option maxRecDepth 100000 in
set_option maxHeartbeats 4000000 in
theorem xX9_offer (x : xX) (o : Nat) (p1 : Int) (μ : xM) (Q : xM → Prop) (ho : isSurvey o) (hp1 : xIn p1) (h : tX9_offer o p1 μ Q) : xMet x 1 yX9_offer cX9_offer 2 none [.ref (x.2.2.1 + o), iV p1] μ (xQv x Q) := by
  refine xMet_of (by decide +kernel) (Nat.le_of_ble_eq_true rfl) ?_
  show xW x (xRm 1, RX9, cX9_offer, 2, none, fun _ _ => True) (xQv x Q) 0 [(0, .ref (x.2.2.1 + o)), (1, iV p1)] [] μ
  refine x_ran (fun n0 => ?_)
  have h := h n0 hp1
  refine x_aload_n 0 rfl dX9_offer_0 ?_
  refine x_getI (j := 12) ho.1 (by have := ho.2.1; omega) rfl rfl (by decide) inT9 fl_X9_51 dX9_offer_1 (fun r1 => ?_)
  refine x_bipush dX9_offer_4 (by decide) ?_
  refine x_icmpge (tgt := 29) r1 ⟨by decide, by decide⟩ dX9_offer_6 (by decide) (fun k2 => ?_) (fun k2 => ?_)
  · have h := h.1 k2
    exact x_vret h rfl dX9_offer_29
  · have h := h.2 k2
    refine x_aload_n 0 rfl dX9_offer_9 ?_
    refine x_getR (j := 8) (r := o + 2) ho.1 (by have := ho.2.1; omega) rfl rfl (by decide) inT9 fl_X9_15 dX9_offer_10 ?_
    refine x_aload_n 0 rfl dX9_offer_13 ?_
    refine x_getI (j := 12) ho.1 (by have := ho.2.1; omega) rfl rfl (by decide) inT9 fl_X9_51 dX9_offer_14 (fun r3 => ?_)
    refine x_iload_n 1 rfl dX9_offer_17 ?_
    obtain ⟨c4, h⟩ := h
    refine x_iast ho.2.2.2.1 c4.1 c4.2 r3 hp1 (by have := ho.2.1; omega) dX9_offer_18 (fun μ5 e7 n6 => ?_)
    have h := h μ5 e7 n6
    refine x_aload_n 0 rfl dX9_offer_19 ?_
    refine x_dup rfl dX9_offer_20 ?_
    refine x_getI (j := 12) ho.1 (by have := ho.2.1; omega) rfl rfl (by decide) inT9 fl_X9_51 dX9_offer_21 (fun r8 => ?_)
    refine x_iconst dX9_offer_24 ?_
    refine x_iadd dX9_offer_25 ?_
    obtain ⟨c9, h⟩ := h
    refine x_putI (j := 12) ho.1 (by have := ho.2.1; omega) rfl rfl (by decide) inT9 fl_X9_51 tyX9 tyX9_ok nmX9 rfl c9 (by decide +kernel) dX9_offer_26 (fun μ10 e12 n11 => ?_)
    have h := h μ10 e12 n11
    exact x_vret h rfl dX9_offer_29
set_option maxRecDepth 100000 in
set_option maxHeartbeats 4000000 in
theorem xX9_take_b52 (x : xX) (o : Nat) (p1 : Int) (b2 : Nat) (b3 : Int) (s1 : Int) (s2 : Int) (μ : xM) (Q : xM → Prop) (J11 : Int → xM → Prop) (ho : isSurvey o) (hp1 : xIn p1) (g2 : lay b2 = (1, 6, []) ∧ b2 < 281) (hJ11 : ∀ (c3 : Int) (ν : xM), J11 c3 ν → xW x (xRm 3, RX9, cX9_take, 4, none, fun _ _ => True) (xQv x Q) 11 [(0, .ref (x.2.2.1 + o)), (1, iV p1), (2, .ref (x.2.2.1 + b2)), (3, iV c3)] [] ν) (h : tX9_take_b52 o p1 b2 b3 s1 s2 μ Q J11) : xW x (xRm 3, RX9, cX9_take, 4, none, fun _ _ => True) (xQv x Q) 52 [(0, .ref (x.2.2.1 + o)), (1, iV p1), (2, .ref (x.2.2.1 + b2)), (3, iV b3)] [iV s2, iV s1, .ref (x.2.2.1 + o)] μ := by
  refine x_ran (fun n0 => ?_)
  have h := h n0
  refine x_iadd dX9_take_52 ?_
  obtain ⟨c47, h⟩ := h
  refine x_putI (j := 15) ho.1 (by have := ho.2.1; omega) rfl rfl (by decide) inT9 fl_X9_57 tyX9 tyX9_ok nmX9 rfl c47 (by decide +kernel) dX9_take_53 (fun μ48 e50 n49 => ?_)
  have h := h μ48 e50 n49
  refine x_aload_n 0 rfl dX9_take_56 ?_
  refine x_getR (j := 7) (r := o + 1) ho.1 (by have := ho.2.1; omega) rfl rfl (by decide) inT9 fl_X9_9 dX9_take_57 ?_
  refine x_aload_n 2 rfl dX9_take_60 ?_
  refine x_iload_n 3 rfl dX9_take_61 ?_
  obtain ⟨c51, h⟩ := h
  refine x_iald g2.1 c51.1 c51.2 (xIb (n := 6) c51 (by decide)) g2.2 dX9_take_62 (fun r52 => ?_)
  refine x_dup2 rfl rfl dX9_take_63 ?_
  obtain ⟨c53, h⟩ := h
  refine x_iald ho.2.2.1 c53.1 c53.2 r52 (by have := ho.2.1; omega) dX9_take_64 (fun r54 => ?_)
  refine x_iconst dX9_take_65 ?_
  refine x_isub dX9_take_66 ?_
  obtain ⟨c55, h⟩ := h
  refine x_iast ho.2.2.1 c53.1 c53.2 r52 c55 (by have := ho.2.1; omega) dX9_take_67 (fun μ56 e58 n57 => ?_)
  have h := h μ56 e58 n57
  refine x_aload_n 0 rfl dX9_take_68 ?_
  refine x_dup rfl dX9_take_69 ?_
  refine x_getI (j := 14) ho.1 (by have := ho.2.1; omega) rfl rfl (by decide) inT9 fl_X9_54 dX9_take_70 (fun r59 => ?_)
  refine x_iconst dX9_take_73 ?_
  refine x_iadd dX9_take_74 ?_
  obtain ⟨c60, h⟩ := h
  refine x_putI (j := 14) ho.1 (by have := ho.2.1; omega) rfl rfl (by decide) inT9 fl_X9_54 tyX9 tyX9_ok nmX9 rfl c60 (by decide +kernel) dX9_take_75 (fun μ61 e63 n62 => ?_)
  have h := h μ61 e63 n62
  refine x_iinc 3 rfl [(3, iV (b3 + 1)), (0, .ref (x.2.2.1 + o)), (1, iV p1), (2, .ref (x.2.2.1 + b2))] dX9_take_78 (show 3 < 4 by decide) rfl ?_
  refine x_goto (tgt := 11) dX9_take_81 (by decide) ?_
  exact x_sub [1, 2, 3, 0] rfl (hJ11 _ _ h)
set_option maxRecDepth 100000 in
set_option maxHeartbeats 4000000 in
theorem xX9_take (x : xX) (o : Nat) (p1 : Int) (μ : xM) (Q : xM → Prop) (ho : isSurvey o) (hp1 : xIn p1) (h : tX9_take o p1 μ Q) : xMet x 3 yX9_take cX9_take 4 none [.ref (x.2.2.1 + o), iV p1] μ (xQv x Q) := by
  refine xMet_of (by decide +kernel) (Nat.le_of_ble_eq_true rfl) ?_
  show xW x (xRm 3, RX9, cX9_take, 4, none, fun _ _ => True) (xQv x Q) 0 [(0, .ref (x.2.2.1 + o)), (1, iV p1)] [] μ
  refine x_ran (fun n0 => ?_)
  have h := h n0 hp1
  refine x_aload_n 0 rfl dX9_take_0 ?_
  refine x_getR (j := 6) (r := 39) ho.1 (by have := ho.2.1; omega) rfl rfl (by decide) inT9 fl_X9_24 dX9_take_1 ?_
  refine x_iload_n 1 rfl dX9_take_4 ?_
  refine x_callVr (As := [iV p1]) (rest := []) cal_X2_glyphsOf ins_X2_glyphsOf sel_X2_glyphsOf ly39 (by decide) rfl (xX2_glyphsOf x 39 p1 _ _ isHouse_39 hp1 h) rfl ml_X9_119 (xRoom (Nat.le_of_ble_eq_true rfl)) (Nat.le_of_ble_eq_true rfl) dX9_take_5 (fun r3 μ1 n2 h => ?_)
  obtain ⟨g4, h⟩ := h n2
  refine x_astore_n [(2, .ref (x.2.2.1 + r3)), (0, .ref (x.2.2.1 + o)), (1, iV p1)] dX9_take_8 (show 2 < 4 by decide) rfl ?_
  refine x_iconst dX9_take_9 ?_
  refine x_istore_n [(3, iV 0), (2, .ref (x.2.2.1 + r3)), (0, .ref (x.2.2.1 + o)), (1, iV p1)] dX9_take_10 (show 3 < 4 by decide) rfl ?_
  refine x_sub [2, 3, 1, 0] rfl ?_
  refine x_loop1 (fun l3_5 => [(0, .ref (x.2.2.1 + o)), (1, iV p1), (2, .ref (x.2.2.1 + r3)), (3, iV l3_5)]) h (fun J11 l3_5 μ6 hJ11 h n7 => ?_)
  refine x_iload_n 3 rfl dX9_take_11 ?_
  refine x_aload_n 2 rfl dX9_take_12 ?_
  refine x_alen g4.1 g4.2 dX9_take_13 ?_
  obtain ⟨c8, h⟩ := h
  refine x_icmpge (tgt := 84) c8 ⟨by decide, by decide⟩ dX9_take_14 (by decide) (fun k9 => ?_) (fun k9 => ?_)
  · have h := h.1 k9
    refine x_aload_n 0 rfl dX9_take_84 ?_
    refine x_dup rfl dX9_take_85 ?_
    refine x_getI (j := 17) ho.1 (by have := ho.2.1; omega) rfl rfl (by decide) inT9 fl_X9_60 dX9_take_86 (fun r10 => ?_)
    refine x_aload_n 0 rfl dX9_take_89 ?_
    refine x_getR (j := 6) (r := 39) ho.1 (by have := ho.2.1; omega) rfl rfl (by decide) inT9 fl_X9_24 dX9_take_90 ?_
    refine x_iload_n 1 rfl dX9_take_93 ?_
    refine x_callVi (As := [iV p1]) (rest := [iV (μ6 o 17), .ref (x.2.2.1 + o)]) cal_X2_valueOf ins_X2_valueOf sel_X2_valueOf ly39 (by decide) rfl (xX2_valueOf x 39 p1 _ _ isHouse_39 hp1 h) rfl ml_X9_123 (xRoom (Nat.le_of_ble_eq_true rfl)) (Nat.le_of_ble_eq_true rfl) dX9_take_94 (fun r13 μ11 i14 n12 h => ?_)
    have h := h i14 n12
    refine x_iadd dX9_take_97 ?_
    obtain ⟨c15, h⟩ := h
    refine x_putI (j := 17) ho.1 (by have := ho.2.1; omega) rfl rfl (by decide) inT9 fl_X9_60 tyX9 tyX9_ok nmX9 rfl c15 (by decide +kernel) dX9_take_98 (fun μ16 e18 n17 => ?_)
    have h := h μ16 e18 n17
    exact x_vret h rfl dX9_take_101
  · have h := h.2 k9
    refine x_aload_n 2 rfl dX9_take_17 ?_
    refine x_iload_n 3 rfl dX9_take_18 ?_
    obtain ⟨c19, h⟩ := h
    refine x_iald g4.1 c19.1 c19.2 (xIb (n := 6) c19 (by decide)) g4.2 dX9_take_19 (fun r20 => ?_)
    refine x_iflt (tgt := 84) r20  dX9_take_20 (by decide) (fun k21 => ?_) (fun k21 => ?_)
    · have h := h.1 k21
      refine x_aload_n 0 rfl dX9_take_84 ?_
      refine x_dup rfl dX9_take_85 ?_
      refine x_getI (j := 17) ho.1 (by have := ho.2.1; omega) rfl rfl (by decide) inT9 fl_X9_60 dX9_take_86 (fun r22 => ?_)
      refine x_aload_n 0 rfl dX9_take_89 ?_
      refine x_getR (j := 6) (r := 39) ho.1 (by have := ho.2.1; omega) rfl rfl (by decide) inT9 fl_X9_24 dX9_take_90 ?_
      refine x_iload_n 1 rfl dX9_take_93 ?_
      refine x_callVi (As := [iV p1]) (rest := [iV (μ6 o 17), .ref (x.2.2.1 + o)]) cal_X2_valueOf ins_X2_valueOf sel_X2_valueOf ly39 (by decide) rfl (xX2_valueOf x 39 p1 _ _ isHouse_39 hp1 h) rfl ml_X9_123 (xRoom (Nat.le_of_ble_eq_true rfl)) (Nat.le_of_ble_eq_true rfl) dX9_take_94 (fun r25 μ23 i26 n24 h => ?_)
      have h := h i26 n24
      refine x_iadd dX9_take_97 ?_
      obtain ⟨c27, h⟩ := h
      refine x_putI (j := 17) ho.1 (by have := ho.2.1; omega) rfl rfl (by decide) inT9 fl_X9_60 tyX9 tyX9_ok nmX9 rfl c27 (by decide +kernel) dX9_take_98 (fun μ28 e30 n29 => ?_)
      have h := h μ28 e30 n29
      exact x_vret h rfl dX9_take_101
    · have h := h.2 k21
      refine x_aload_n 2 rfl dX9_take_23 ?_
      refine x_iload_n 3 rfl dX9_take_24 ?_
      refine x_iald g4.1 c19.1 c19.2 (xIb (n := 6) c19 (by decide)) g4.2 dX9_take_25 (fun r31 => ?_)
      refine x_bipush dX9_take_26 (by decide) ?_
      refine x_icmpge (tgt := 84) r31 ⟨by decide, by decide⟩ dX9_take_28 (by decide) (fun k32 => ?_) (fun k32 => ?_)
      · have h := h.1 k32
        refine x_aload_n 0 rfl dX9_take_84 ?_
        refine x_dup rfl dX9_take_85 ?_
        refine x_getI (j := 17) ho.1 (by have := ho.2.1; omega) rfl rfl (by decide) inT9 fl_X9_60 dX9_take_86 (fun r33 => ?_)
        refine x_aload_n 0 rfl dX9_take_89 ?_
        refine x_getR (j := 6) (r := 39) ho.1 (by have := ho.2.1; omega) rfl rfl (by decide) inT9 fl_X9_24 dX9_take_90 ?_
        refine x_iload_n 1 rfl dX9_take_93 ?_
        refine x_callVi (As := [iV p1]) (rest := [iV (μ6 o 17), .ref (x.2.2.1 + o)]) cal_X2_valueOf ins_X2_valueOf sel_X2_valueOf ly39 (by decide) rfl (xX2_valueOf x 39 p1 _ _ isHouse_39 hp1 h) rfl ml_X9_123 (xRoom (Nat.le_of_ble_eq_true rfl)) (Nat.le_of_ble_eq_true rfl) dX9_take_94 (fun r36 μ34 i37 n35 h => ?_)
        have h := h i37 n35
        refine x_iadd dX9_take_97 ?_
        obtain ⟨c38, h⟩ := h
        refine x_putI (j := 17) ho.1 (by have := ho.2.1; omega) rfl rfl (by decide) inT9 fl_X9_60 tyX9 tyX9_ok nmX9 rfl c38 (by decide +kernel) dX9_take_98 (fun μ39 e41 n40 => ?_)
        have h := h μ39 e41 n40
        exact x_vret h rfl dX9_take_101
      · have h := h.2 k32
        refine x_aload_n 0 rfl dX9_take_31 ?_
        refine x_dup rfl dX9_take_32 ?_
        refine x_getI (j := 15) ho.1 (by have := ho.2.1; omega) rfl rfl (by decide) inT9 fl_X9_57 dX9_take_33 (fun r42 => ?_)
        refine x_aload_n 0 rfl dX9_take_36 ?_
        refine x_getR (j := 7) (r := o + 1) ho.1 (by have := ho.2.1; omega) rfl rfl (by decide) inT9 fl_X9_9 dX9_take_37 ?_
        refine x_aload_n 2 rfl dX9_take_40 ?_
        refine x_iload_n 3 rfl dX9_take_41 ?_
        refine x_iald g4.1 c19.1 c19.2 (xIb (n := 6) c19 (by decide)) g4.2 dX9_take_42 (fun r43 => ?_)
        obtain ⟨c44, h⟩ := h
        refine x_iald ho.2.2.1 c44.1 c44.2 r43 (by have := ho.2.1; omega) dX9_take_43 (fun r45 => ?_)
        refine x_ifle (tgt := 51) r45  dX9_take_44 (by decide) (fun k46 => ?_) (fun k46 => ?_)
        · have h := h.1 k46
          refine x_iconst dX9_take_51 ?_
          exact x_sub [0, 1, 2, 3] rfl (xX9_take_b52 x o p1 r3 l3_5 (μ6 o 15) 1 μ6 Q J11 ho hp1 ⟨g4.1, g4.2⟩ hJ11 h)
        · have h := h.2 k46
          refine x_iconst dX9_take_47 ?_
          refine x_goto (tgt := 52) dX9_take_48 (by decide) ?_
          exact x_sub [0, 1, 2, 3] rfl (xX9_take_b52 x o p1 r3 l3_5 (μ6 o 15) 0 μ6 Q J11 ho hp1 ⟨g4.1, g4.2⟩ hJ11 h)
set_option maxRecDepth 100000 in
set_option maxHeartbeats 4000000 in
theorem xX9_giveBack (x : xX) (o : Nat) (p1 : Int) (μ : xM) (Q : xM → Prop) (ho : isSurvey o) (hp1 : xIn p1) (h : tX9_giveBack o p1 μ Q) : xMet x 3 yX9_giveBack cX9_giveBack 4 none [.ref (x.2.2.1 + o), iV p1] μ (xQv x Q) := by
  refine xMet_of (by decide +kernel) (Nat.le_of_ble_eq_true rfl) ?_
  show xW x (xRm 3, RX9, cX9_giveBack, 4, none, fun _ _ => True) (xQv x Q) 0 [(0, .ref (x.2.2.1 + o)), (1, iV p1)] [] μ
  refine x_ran (fun n0 => ?_)
  have h := h n0 hp1
  refine x_aload_n 0 rfl dX9_giveBack_0 ?_
  refine x_getR (j := 6) (r := 39) ho.1 (by have := ho.2.1; omega) rfl rfl (by decide) inT9 fl_X9_24 dX9_giveBack_1 ?_
  refine x_iload_n 1 rfl dX9_giveBack_4 ?_
  refine x_callVr (As := [iV p1]) (rest := []) cal_X2_glyphsOf ins_X2_glyphsOf sel_X2_glyphsOf ly39 (by decide) rfl (xX2_glyphsOf x 39 p1 _ _ isHouse_39 hp1 h) rfl ml_X9_119 (xRoom (Nat.le_of_ble_eq_true rfl)) (Nat.le_of_ble_eq_true rfl) dX9_giveBack_5 (fun r3 μ1 n2 h => ?_)
  obtain ⟨g4, h⟩ := h n2
  refine x_astore_n [(2, .ref (x.2.2.1 + r3)), (0, .ref (x.2.2.1 + o)), (1, iV p1)] dX9_giveBack_8 (show 2 < 4 by decide) rfl ?_
  refine x_iconst dX9_giveBack_9 ?_
  refine x_istore_n [(3, iV 0), (2, .ref (x.2.2.1 + r3)), (0, .ref (x.2.2.1 + o)), (1, iV p1)] dX9_giveBack_10 (show 3 < 4 by decide) rfl ?_
  refine x_sub [2, 3, 1, 0] rfl ?_
  refine x_loop1 (fun l3_5 => [(0, .ref (x.2.2.1 + o)), (1, iV p1), (2, .ref (x.2.2.1 + r3)), (3, iV l3_5)]) h (fun J11 l3_5 μ6 hJ11 h n7 => ?_)
  refine x_iload_n 3 rfl dX9_giveBack_11 ?_
  refine x_aload_n 2 rfl dX9_giveBack_12 ?_
  refine x_alen g4.1 g4.2 dX9_giveBack_13 ?_
  obtain ⟨c8, h⟩ := h
  refine x_icmpge (tgt := 84) c8 ⟨by decide, by decide⟩ dX9_giveBack_14 (by decide) (fun k9 => ?_) (fun k9 => ?_)
  · have h := h.1 k9
    refine x_aload_n 0 rfl dX9_giveBack_84 ?_
    refine x_dup rfl dX9_giveBack_85 ?_
    refine x_getI (j := 17) ho.1 (by have := ho.2.1; omega) rfl rfl (by decide) inT9 fl_X9_60 dX9_giveBack_86 (fun r10 => ?_)
    refine x_aload_n 0 rfl dX9_giveBack_89 ?_
    refine x_getR (j := 6) (r := 39) ho.1 (by have := ho.2.1; omega) rfl rfl (by decide) inT9 fl_X9_24 dX9_giveBack_90 ?_
    refine x_iload_n 1 rfl dX9_giveBack_93 ?_
    refine x_callVi (As := [iV p1]) (rest := [iV (μ6 o 17), .ref (x.2.2.1 + o)]) cal_X2_valueOf ins_X2_valueOf sel_X2_valueOf ly39 (by decide) rfl (xX2_valueOf x 39 p1 _ _ isHouse_39 hp1 h) rfl ml_X9_123 (xRoom (Nat.le_of_ble_eq_true rfl)) (Nat.le_of_ble_eq_true rfl) dX9_giveBack_94 (fun r13 μ11 i14 n12 h => ?_)
    have h := h i14 n12
    refine x_isub dX9_giveBack_97 ?_
    obtain ⟨c15, h⟩ := h
    refine x_putI (j := 17) ho.1 (by have := ho.2.1; omega) rfl rfl (by decide) inT9 fl_X9_60 tyX9 tyX9_ok nmX9 rfl c15 (by decide +kernel) dX9_giveBack_98 (fun μ16 e18 n17 => ?_)
    have h := h μ16 e18 n17
    exact x_vret h rfl dX9_giveBack_101
  · have h := h.2 k9
    refine x_aload_n 2 rfl dX9_giveBack_17 ?_
    refine x_iload_n 3 rfl dX9_giveBack_18 ?_
    obtain ⟨c19, h⟩ := h
    refine x_iald g4.1 c19.1 c19.2 (xIb (n := 6) c19 (by decide)) g4.2 dX9_giveBack_19 (fun r20 => ?_)
    refine x_iflt (tgt := 84) r20  dX9_giveBack_20 (by decide) (fun k21 => ?_) (fun k21 => ?_)
    · have h := h.1 k21
      refine x_aload_n 0 rfl dX9_giveBack_84 ?_
      refine x_dup rfl dX9_giveBack_85 ?_
      refine x_getI (j := 17) ho.1 (by have := ho.2.1; omega) rfl rfl (by decide) inT9 fl_X9_60 dX9_giveBack_86 (fun r22 => ?_)
      refine x_aload_n 0 rfl dX9_giveBack_89 ?_
      refine x_getR (j := 6) (r := 39) ho.1 (by have := ho.2.1; omega) rfl rfl (by decide) inT9 fl_X9_24 dX9_giveBack_90 ?_
      refine x_iload_n 1 rfl dX9_giveBack_93 ?_
      refine x_callVi (As := [iV p1]) (rest := [iV (μ6 o 17), .ref (x.2.2.1 + o)]) cal_X2_valueOf ins_X2_valueOf sel_X2_valueOf ly39 (by decide) rfl (xX2_valueOf x 39 p1 _ _ isHouse_39 hp1 h) rfl ml_X9_123 (xRoom (Nat.le_of_ble_eq_true rfl)) (Nat.le_of_ble_eq_true rfl) dX9_giveBack_94 (fun r25 μ23 i26 n24 h => ?_)
      have h := h i26 n24
      refine x_isub dX9_giveBack_97 ?_
      obtain ⟨c27, h⟩ := h
      refine x_putI (j := 17) ho.1 (by have := ho.2.1; omega) rfl rfl (by decide) inT9 fl_X9_60 tyX9 tyX9_ok nmX9 rfl c27 (by decide +kernel) dX9_giveBack_98 (fun μ28 e30 n29 => ?_)
      have h := h μ28 e30 n29
      exact x_vret h rfl dX9_giveBack_101
    · have h := h.2 k21
      refine x_aload_n 2 rfl dX9_giveBack_23 ?_
      refine x_iload_n 3 rfl dX9_giveBack_24 ?_
      refine x_iald g4.1 c19.1 c19.2 (xIb (n := 6) c19 (by decide)) g4.2 dX9_giveBack_25 (fun r31 => ?_)
      refine x_bipush dX9_giveBack_26 (by decide) ?_
      refine x_icmpge (tgt := 84) r31 ⟨by decide, by decide⟩ dX9_giveBack_28 (by decide) (fun k32 => ?_) (fun k32 => ?_)
      · have h := h.1 k32
        refine x_aload_n 0 rfl dX9_giveBack_84 ?_
        refine x_dup rfl dX9_giveBack_85 ?_
        refine x_getI (j := 17) ho.1 (by have := ho.2.1; omega) rfl rfl (by decide) inT9 fl_X9_60 dX9_giveBack_86 (fun r33 => ?_)
        refine x_aload_n 0 rfl dX9_giveBack_89 ?_
        refine x_getR (j := 6) (r := 39) ho.1 (by have := ho.2.1; omega) rfl rfl (by decide) inT9 fl_X9_24 dX9_giveBack_90 ?_
        refine x_iload_n 1 rfl dX9_giveBack_93 ?_
        refine x_callVi (As := [iV p1]) (rest := [iV (μ6 o 17), .ref (x.2.2.1 + o)]) cal_X2_valueOf ins_X2_valueOf sel_X2_valueOf ly39 (by decide) rfl (xX2_valueOf x 39 p1 _ _ isHouse_39 hp1 h) rfl ml_X9_123 (xRoom (Nat.le_of_ble_eq_true rfl)) (Nat.le_of_ble_eq_true rfl) dX9_giveBack_94 (fun r36 μ34 i37 n35 h => ?_)
        have h := h i37 n35
        refine x_isub dX9_giveBack_97 ?_
        obtain ⟨c38, h⟩ := h
        refine x_putI (j := 17) ho.1 (by have := ho.2.1; omega) rfl rfl (by decide) inT9 fl_X9_60 tyX9 tyX9_ok nmX9 rfl c38 (by decide +kernel) dX9_giveBack_98 (fun μ39 e41 n40 => ?_)
        have h := h μ39 e41 n40
        exact x_vret h rfl dX9_giveBack_101
      · have h := h.2 k32
        refine x_aload_n 0 rfl dX9_giveBack_31 ?_
        refine x_getR (j := 7) (r := o + 1) ho.1 (by have := ho.2.1; omega) rfl rfl (by decide) inT9 fl_X9_9 dX9_giveBack_32 ?_
        refine x_aload_n 2 rfl dX9_giveBack_35 ?_
        refine x_iload_n 3 rfl dX9_giveBack_36 ?_
        refine x_iald g4.1 c19.1 c19.2 (xIb (n := 6) c19 (by decide)) g4.2 dX9_giveBack_37 (fun r42 => ?_)
        refine x_dup2 rfl rfl dX9_giveBack_38 ?_
        obtain ⟨c43, h⟩ := h
        refine x_iald ho.2.2.1 c43.1 c43.2 r42 (by have := ho.2.1; omega) dX9_giveBack_39 (fun r44 => ?_)
        refine x_iconst dX9_giveBack_40 ?_
        refine x_iadd dX9_giveBack_41 ?_
        obtain ⟨c45, h⟩ := h
        refine x_iast ho.2.2.1 c43.1 c43.2 r42 c45 (by have := ho.2.1; omega) dX9_giveBack_42 (fun μ46 e48 n47 => ?_)
        have h := h μ46 e48 n47
        refine x_aload_n 0 rfl dX9_giveBack_43 ?_
        refine x_dup rfl dX9_giveBack_44 ?_
        refine x_getI (j := 15) ho.1 (by have := ho.2.1; omega) rfl rfl (by decide) inT9 fl_X9_57 dX9_giveBack_45 (fun r49 => ?_)
        refine x_aload_n 0 rfl dX9_giveBack_48 ?_
        refine x_getR (j := 7) (r := o + 1) ho.1 (by have := ho.2.1; omega) rfl rfl (by decide) inT9 fl_X9_9 dX9_giveBack_49 ?_
        refine x_aload_n 2 rfl dX9_giveBack_52 ?_
        refine x_iload_n 3 rfl dX9_giveBack_53 ?_
        refine x_iald g4.1 c19.1 c19.2 (xIb (n := 6) c19 (by decide)) g4.2 dX9_giveBack_54 (fun r50 => ?_)
        obtain ⟨c51, h⟩ := h
        refine x_iald ho.2.2.1 c51.1 c51.2 r50 (by have := ho.2.1; omega) dX9_giveBack_55 (fun r52 => ?_)
        refine x_ifle (tgt := 63) r52  dX9_giveBack_56 (by decide) (fun k53 => ?_) (fun k53 => ?_)
        · have h := h.1 k53
          refine x_iconst dX9_giveBack_63 ?_
          refine x_isub dX9_giveBack_64 ?_
          obtain ⟨c54, h⟩ := h
          refine x_putI (j := 15) ho.1 (by have := ho.2.1; omega) rfl rfl (by decide) inT9 fl_X9_57 tyX9 tyX9_ok nmX9 rfl c54 (by decide +kernel) dX9_giveBack_65 (fun μ55 e57 n56 => ?_)
          have h := h μ55 e57 n56
          refine x_aload_n 0 rfl dX9_giveBack_68 ?_
          refine x_dup rfl dX9_giveBack_69 ?_
          refine x_getI (j := 14) ho.1 (by have := ho.2.1; omega) rfl rfl (by decide) inT9 fl_X9_54 dX9_giveBack_70 (fun r58 => ?_)
          refine x_iconst dX9_giveBack_73 ?_
          refine x_isub dX9_giveBack_74 ?_
          obtain ⟨c59, h⟩ := h
          refine x_putI (j := 14) ho.1 (by have := ho.2.1; omega) rfl rfl (by decide) inT9 fl_X9_54 tyX9 tyX9_ok nmX9 rfl c59 (by decide +kernel) dX9_giveBack_75 (fun μ60 e62 n61 => ?_)
          have h := h μ60 e62 n61
          refine x_iinc 3 rfl [(3, iV (l3_5 + 1)), (0, .ref (x.2.2.1 + o)), (1, iV p1), (2, .ref (x.2.2.1 + r3))] dX9_giveBack_78 (show 3 < 4 by decide) rfl ?_
          refine x_goto (tgt := 11) dX9_giveBack_81 (by decide) ?_
          exact x_sub [1, 2, 3, 0] rfl (hJ11 _ _ h)
        · have h := h.2 k53
          refine x_iconst dX9_giveBack_59 ?_
          refine x_goto (tgt := 64) dX9_giveBack_60 (by decide) ?_
          refine x_isub dX9_giveBack_64 ?_
          obtain ⟨c63, h⟩ := h
          refine x_putI (j := 15) ho.1 (by have := ho.2.1; omega) rfl rfl (by decide) inT9 fl_X9_57 tyX9 tyX9_ok nmX9 rfl c63 (by decide +kernel) dX9_giveBack_65 (fun μ64 e66 n65 => ?_)
          have h := h μ64 e66 n65
          refine x_aload_n 0 rfl dX9_giveBack_68 ?_
          refine x_dup rfl dX9_giveBack_69 ?_
          refine x_getI (j := 14) ho.1 (by have := ho.2.1; omega) rfl rfl (by decide) inT9 fl_X9_54 dX9_giveBack_70 (fun r67 => ?_)
          refine x_iconst dX9_giveBack_73 ?_
          refine x_isub dX9_giveBack_74 ?_
          obtain ⟨c68, h⟩ := h
          refine x_putI (j := 14) ho.1 (by have := ho.2.1; omega) rfl rfl (by decide) inT9 fl_X9_54 tyX9 tyX9_ok nmX9 rfl c68 (by decide +kernel) dX9_giveBack_75 (fun μ69 e71 n70 => ?_)
          have h := h μ69 e71 n70
          refine x_iinc 3 rfl [(3, iV (l3_5 + 1)), (0, .ref (x.2.2.1 + o)), (1, iV p1), (2, .ref (x.2.2.1 + r3))] dX9_giveBack_78 (show 3 < 4 by decide) rfl ?_
          refine x_goto (tgt := 11) dX9_giveBack_81 (by decide) ?_
          exact x_sub [1, 2, 3, 0] rfl (hJ11 _ _ h)
