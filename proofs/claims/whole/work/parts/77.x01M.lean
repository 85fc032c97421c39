set_option maxRecDepth 100000 in
set_option maxHeartbeats 4000000 in
theorem xX11_thrown (x : xX)  (μ : xM) (Q : Int → xM → Prop)  (h : tX11_thrown  μ Q) : xMet x 1 yX11_thrown cX11_thrown 1 (some .int) [.ref (x.2.2.1 + 260)] μ (xQi x Q) := by
  refine xMet_of (by decide +kernel) (Nat.le_of_ble_eq_true rfl) ?_
  show xW x (xRm 1, RX11, cX11_thrown, 1, (some .int), fun _ _ => True) (xQi x Q) 0 [(0, .ref (x.2.2.1 + 260))] [] μ
  refine x_ran (fun n0 => ?_)
  have h := h n0 
  refine x_aload_n 0 rfl dX11_thrown_0 ?_
  refine x_getI (j := 0) ly260 (by decide) rfl rfl (by decide) inT11 fl_X11_74 dX11_thrown_1 (fun r1 => ?_)
  exact x_iret h r1 rfl dX11_thrown_4
set_option maxRecDepth 100000 in
set_option maxHeartbeats 4000000 in
theorem xX11_good (x : xX)  (μ : xM) (Q : xM → Prop)  (h : tX11_good  μ Q) : xMet x 1 yX11_good cX11_good 1 none [.ref (x.2.2.1 + 260)] μ (xQv x Q) := by
  refine xMet_of (by decide +kernel) (Nat.le_of_ble_eq_true rfl) ?_
  show xW x (xRm 1, RX11, cX11_good, 1, none, fun _ _ => True) (xQv x Q) 0 [(0, .ref (x.2.2.1 + 260))] [] μ
  refine x_ran (fun n0 => ?_)
  have h := h n0 
  refine x_aload_n 0 rfl dX11_good_0 ?_
  refine x_iconst dX11_good_1 ?_
  refine x_putI (j := 0) ly260 (by decide) rfl rfl (by decide) inT11 fl_X11_74 tyX11 tyX11_ok nmX11 rfl ⟨by decide, by decide⟩ (by decide +kernel) dX11_good_2 (fun μ1 e3 n2 => ?_)
  have h := h μ1 e3 n2
  refine x_aload_n 0 rfl dX11_good_5 ?_
  refine x_iconst dX11_good_6 ?_
  refine x_putI (j := 11) ly260 (by decide) rfl rfl (by decide) inT11 fl_X11_77 tyX11 tyX11_ok nmX11 rfl ⟨by decide, by decide⟩ (by decide +kernel) dX11_good_7 (fun μ4 e6 n5 => ?_)
  have h := h μ4 e6 n5
  exact x_vret h rfl dX11_good_10
set_option maxRecDepth 100000 in
set_option maxHeartbeats 4000000 in
theorem xX11_no (x : xX) (p1 : Int) (μ : xM) (Q : Int → xM → Prop) (hp1 : xIn p1) (h : tX11_no p1 μ Q) : xMet x 1 yX11_no cX11_no 2 (some .int) [.ref (x.2.2.1 + 260), iV p1] μ (xQi x Q) := by
  refine xMet_of (by decide +kernel) (Nat.le_of_ble_eq_true rfl) ?_
  show xW x (xRm 1, RX11, cX11_no, 2, (some .int), fun _ _ => True) (xQi x Q) 0 [(0, .ref (x.2.2.1 + 260)), (1, iV p1)] [] μ
  refine x_ran (fun n0 => ?_)
  have h := h n0 hp1
  refine x_aload_n 0 rfl dX11_no_0 ?_
  refine x_iload_n 1 rfl dX11_no_1 ?_
  refine x_putI (j := 11) ly260 (by decide) rfl rfl (by decide) inT11 fl_X11_77 tyX11 tyX11_ok nmX11 rfl hp1 (by decide +kernel) dX11_no_2 (fun μ1 e3 n2 => ?_)
  have h := h μ1 e3 n2
  refine x_iconst dX11_no_5 ?_
  exact x_iret h ⟨by decide, by decide⟩ rfl dX11_no_6
set_option maxRecDepth 100000 in
set_option maxHeartbeats 4000000 in
theorem xX11_isNot (x : xX) (p1 : Int) (μ : xM) (Q : Int → xM → Prop) (hp1 : xIn p1) (h : tX11_isNot p1 μ Q) : xMet x 1 yX11_isNot cX11_isNot 2 (some .boolean) [.ref (x.2.2.1 + 260), iV p1] μ (xQz x Q) := by
  refine xMet_of (by decide +kernel) (Nat.le_of_ble_eq_true rfl) ?_
  show xW x (xRm 1, RX11, cX11_isNot, 2, (some .boolean), fun _ _ => True) (xQz x Q) 0 [(0, .ref (x.2.2.1 + 260)), (1, iV p1)] [] μ
  refine x_ran (fun n0 => ?_)
  have h := h n0 hp1
  refine x_aload_n 0 rfl dX11_isNot_0 ?_
  refine x_iload_n 1 rfl dX11_isNot_1 ?_
  refine x_putI (j := 11) ly260 (by decide) rfl rfl (by decide) inT11 fl_X11_77 tyX11 tyX11_ok nmX11 rfl hp1 (by decide +kernel) dX11_isNot_2 (fun μ1 e3 n2 => ?_)
  have h := h μ1 e3 n2
  refine x_iconst dX11_isNot_5 ?_
  exact x_zret h (Or.inl rfl) rfl dX11_isNot_6
set_option maxRecDepth 100000 in
set_option maxHeartbeats 4000000 in
theorem xX11_within (x : xX) (p1 : Int) (p2 : Int) (p3 : Int) (μ : xM) (Q : Int → xM → Prop) (hp1 : xIn p1) (hp2 : xIn p2) (hp3 : xIn p3) (h : tX11_within p1 p2 p3 μ Q) : xMet x 1 yX11_within cX11_within 3 (some .boolean) [iV p1, iV p2, iV p3] μ (xQz x Q) := by
  refine xMet_of (by decide +kernel) (Nat.le_of_ble_eq_true rfl) ?_
  show xW x (xRm 1, RX11, cX11_within, 3, (some .boolean), fun _ _ => True) (xQz x Q) 0 [(0, iV p1), (1, iV p2), (2, iV p3)] [] μ
  refine x_ran (fun n0 => ?_)
  have h := h n0 hp1 hp2 hp3
  refine x_iload_n 0 rfl dX11_within_0 ?_
  refine x_iload_n 1 rfl dX11_within_1 ?_
  refine x_icmplt (tgt := 14) hp1 hp2 dX11_within_2 (by decide) (fun k1 => ?_) (fun k1 => ?_)
  · have h := h.1 k1
    refine x_iconst dX11_within_14 ?_
    exact x_zret h (Or.inl rfl) rfl dX11_within_15
  · have h := h.2 k1
    refine x_iload_n 0 rfl dX11_within_5 ?_
    refine x_iload_n 2 rfl dX11_within_6 ?_
    refine x_icmpgt (tgt := 14) hp1 hp3 dX11_within_7 (by decide) (fun k2 => ?_) (fun k2 => ?_)
    · have h := h.1 k2
      refine x_iconst dX11_within_14 ?_
      exact x_zret h (Or.inl rfl) rfl dX11_within_15
    · have h := h.2 k2
      refine x_iconst dX11_within_10 ?_
      refine x_goto (tgt := 15) dX11_within_11 (by decide) ?_
      exact x_zret h (Or.inr rfl) rfl dX11_within_15
set_option maxRecDepth 100000 in
set_option maxHeartbeats 4000000 in
theorem xX11_feed_b76 (x : xX) (p1 : Int) (p2 : Int) (p3 : Int) (p4 : Int) (p5 : Int) (b6 : Int) (s0 : Int) (μ : xM) (Q : Int → xM → Prop) (J23 : Int → xM → Prop) (hp1 : xIn p1) (hp2 : xIn p2) (hp3 : xIn p3) (hp4 : xIn p4) (hp5 : xIn p5)  (hJ23 : ∀ (c6 : Int) (ν : xM), J23 c6 ν → xW x (xRm 1, RX11, cX11_feed, 8, (some .int), fun _ _ => True) (xQi x Q) 23 [(0, .ref (x.2.2.1 + 260)), (1, iV p1), (2, iV p2), (3, iV p3), (4, iV p4), (5, iV p5), (6, iV c6)] [] ν) (h : tX11_feed_b76 p1 p2 p3 p4 p5 b6 s0 μ Q J23) : xW x (xRm 1, RX11, cX11_feed, 8, (some .int), fun _ _ => True) (xQi x Q) 76 [(0, .ref (x.2.2.1 + 260)), (1, iV p1), (2, iV p2), (3, iV p3), (4, iV p4), (5, iV p5), (6, iV b6)] [iV s0] μ := by
  refine x_ran (fun n0 => ?_)
  have h := h n0
  refine x_istore [(7, iV s0), (0, .ref (x.2.2.1 + 260)), (1, iV p1), (2, iV p2), (3, iV p3), (4, iV p4), (5, iV p5), (6, iV b6)] dX11_feed_76 (show 7 < 8 by decide) rfl ?_
  refine x_aload_n 1 rfl dX11_feed_78 ?_
  refine x_getR (j := 1) (r := 261) ly260 (by decide) rfl rfl (by decide) inT11 fl_X11_7 dX11_feed_79 ?_
  refine x_aload_n 1 rfl dX11_feed_82 ?_
  refine x_getI (j := 2) ly260 (by decide) rfl rfl (by decide) inT11 fl_X11_80 dX11_feed_83 (fun r17 => ?_)
  refine x_iload 0 rfl dX11_feed_86 ?_
  refine x_bipush dX11_feed_88 (by decide) ?_
  refine x_bipush dX11_feed_90 (by decide) ?_
  refine x_iload 7 rfl dX11_feed_92 ?_
  refine x_iconst dX11_feed_94 ?_
  obtain ⟨c18, h⟩ := h
  refine x_irem c18 ⟨by decide, by decide⟩ (by decide) dX11_feed_95 ?_
  refine x_imul dX11_feed_96 ?_
  refine x_isub dX11_feed_97 ?_
  refine x_ishr dX11_feed_98 ?_
  refine x_sipush dX11_feed_99 (by decide) ?_
  refine x_iand dX11_feed_102 ?_
  obtain ⟨c19, h⟩ := h
  refine x_iast ly261 c19.1 c19.2 r17 (xAnd_in _ _) (by decide) dX11_feed_103 (fun μ20 e22 n21 => ?_)
  have h := h μ20 e22 n21
  refine x_aload_n 1 rfl dX11_feed_104 ?_
  refine x_dup rfl dX11_feed_105 ?_
  refine x_getI (j := 2) ly260 (by decide) rfl rfl (by decide) inT11 fl_X11_80 dX11_feed_106 (fun r23 => ?_)
  refine x_iconst dX11_feed_109 ?_
  refine x_iadd dX11_feed_110 ?_
  obtain ⟨c24, h⟩ := h
  refine x_putI (j := 2) ly260 (by decide) rfl rfl (by decide) inT11 fl_X11_80 tyX11 tyX11_ok nmX11 rfl c24 (by decide +kernel) dX11_feed_111 (fun μ25 e27 n26 => ?_)
  have h := h μ25 e27 n26
  refine x_iinc 7 rfl [(6, iV (b6 + 1)), (7, iV s0), (0, .ref (x.2.2.1 + 260)), (1, iV p1), (2, iV p2), (3, iV p3), (4, iV p4), (5, iV p5)] dX11_feed_114 (show 6 < 8 by decide) rfl ?_
  refine x_goto (tgt := 23) dX11_feed_117 (by decide) ?_
  exact x_sub [2, 3, 4, 5, 6, 7, 0] rfl (hJ23 _ _ h)
set_option maxRecDepth 100000 in
set_option maxHeartbeats 4000000 in
theorem xX11_feed (x : xX) (p1 : Int) (p2 : Int) (p3 : Int) (p4 : Int) (p5 : Int) (μ : xM) (Q : Int → xM → Prop) (hp1 : xIn p1) (hp2 : xIn p2) (hp3 : xIn p3) (hp4 : xIn p4) (hp5 : xIn p5) (h : tX11_feed p1 p2 p3 p4 p5 μ Q) : xMet x 1 yX11_feed cX11_feed 8 (some .int) [.ref (x.2.2.1 + 260), iV p1, iV p2, iV p3, iV p4, iV p5] μ (xQi x Q) := by
  refine xMet_of (by decide +kernel) (Nat.le_of_ble_eq_true rfl) ?_
  show xW x (xRm 1, RX11, cX11_feed, 8, (some .int), fun _ _ => True) (xQi x Q) 0 [(0, .ref (x.2.2.1 + 260)), (1, iV p1), (2, iV p2), (3, iV p3), (4, iV p4), (5, iV p5)] [] μ
  refine x_ran (fun n0 => ?_)
  have h := h n0 hp1 hp2 hp3 hp4 hp5
  refine x_aload_n 0 rfl dX11_feed_0 ?_
  refine x_iconst dX11_feed_1 ?_
  refine x_putI (j := 0) ly260 (by decide) rfl rfl (by decide) inT11 fl_X11_74 tyX11 tyX11_ok nmX11 rfl ⟨by decide, by decide⟩ (by decide +kernel) dX11_feed_2 (fun μ1 e3 n2 => ?_)
  have h := h μ1 e3 n2
  refine x_aload_n 0 rfl dX11_feed_5 ?_
  refine x_getI (j := 2) ly260 (by decide) rfl rfl (by decide) inT11 fl_X11_80 dX11_feed_6 (fun r4 => ?_)
  refine x_bipush dX11_feed_9 (by decide) ?_
  refine x_iadd dX11_feed_11 ?_
  refine x_sipush dX11_feed_12 (by decide) ?_
  obtain ⟨c5, h⟩ := h
  refine x_icmple (tgt := 20) c5 ⟨by decide, by decide⟩ dX11_feed_15 (by decide) (fun k6 => ?_) (fun k6 => ?_)
  · have h := h.1 k6
    refine x_iconst dX11_feed_20 ?_
    refine x_istore [(6, iV 0), (0, .ref (x.2.2.1 + 260)), (1, iV p1), (2, iV p2), (3, iV p3), (4, iV p4), (5, iV p5)] dX11_feed_21 (show 6 < 8 by decide) rfl ?_
    refine x_sub [1, 2, 3, 4, 5, 6, 0] rfl ?_
    refine x_loop1 (fun l6_7 => [(0, .ref (x.2.2.1 + 260)), (1, iV p1), (2, iV p2), (3, iV p3), (4, iV p4), (5, iV p5), (6, iV l6_7)]) h (fun J23 l6_7 μ8 hJ23 h n9 => ?_)
    refine x_iload 6 rfl dX11_feed_23 ?_
    refine x_bipush dX11_feed_25 (by decide) ?_
    obtain ⟨c10, h⟩ := h
    refine x_icmpge (tgt := 120) c10 ⟨by decide, by decide⟩ dX11_feed_27 (by decide) (fun k11 => ?_) (fun k11 => ?_)
    · have h := h.1 k11
      refine x_aload_n 0 rfl dX11_feed_120 ?_
      refine x_getI (j := 2) ly260 (by decide) rfl rfl (by decide) inT11 fl_X11_80 dX11_feed_121 (fun r12 => ?_)
      exact x_iret h r12 rfl dX11_feed_124
    · have h := h.2 k11
      refine x_iload 6 rfl dX11_feed_30 ?_
      refine x_iconst dX11_feed_32 ?_
      refine x_icmpge (tgt := 40) c10 ⟨by decide, by decide⟩ dX11_feed_33 (by decide) (fun k13 => ?_) (fun k13 => ?_)
      · have h := h.1 k13
        refine x_iload 6 rfl dX11_feed_40 ?_
        refine x_bipush dX11_feed_42 (by decide) ?_
        refine x_icmpge (tgt := 51) c10 ⟨by decide, by decide⟩ dX11_feed_44 (by decide) (fun k14 => ?_) (fun k14 => ?_)
        · have h := h.1 k14
          refine x_iload 6 rfl dX11_feed_51 ?_
          refine x_bipush dX11_feed_53 (by decide) ?_
          refine x_icmpge (tgt := 62) c10 ⟨by decide, by decide⟩ dX11_feed_55 (by decide) (fun k15 => ?_) (fun k15 => ?_)
          · have h := h.1 k15
            refine x_iload 6 rfl dX11_feed_62 ?_
            refine x_bipush dX11_feed_64 (by decide) ?_
            refine x_icmpge (tgt := 74) c10 ⟨by decide, by decide⟩ dX11_feed_66 (by decide) (fun k16 => ?_) (fun k16 => ?_)
            · have h := h.1 k16
              refine x_iload 5 rfl dX11_feed_74 ?_
              exact x_sub [0, 1, 2, 3, 4, 5, 6] rfl (xX11_feed_b76 x p1 p2 p3 p4 p5 l6_7 p5 μ8 Q J23 hp1 hp2 hp3 hp4 hp5 hJ23 h)
            · have h := h.2 k16
              refine x_iload 4 rfl dX11_feed_69 ?_
              refine x_goto (tgt := 76) dX11_feed_71 (by decide) ?_
              exact x_sub [0, 1, 2, 3, 4, 5, 6] rfl (xX11_feed_b76 x p1 p2 p3 p4 p5 l6_7 p4 μ8 Q J23 hp1 hp2 hp3 hp4 hp5 hJ23 h)
          · have h := h.2 k15
            refine x_iload_n 3 rfl dX11_feed_58 ?_
            refine x_goto (tgt := 76) dX11_feed_59 (by decide) ?_
            exact x_sub [0, 1, 2, 3, 4, 5, 6] rfl (xX11_feed_b76 x p1 p2 p3 p4 p5 l6_7 p3 μ8 Q J23 hp1 hp2 hp3 hp4 hp5 hJ23 h)
        · have h := h.2 k14
          refine x_iload_n 2 rfl dX11_feed_47 ?_
          refine x_goto (tgt := 76) dX11_feed_48 (by decide) ?_
          exact x_sub [0, 1, 2, 3, 4, 5, 6] rfl (xX11_feed_b76 x p1 p2 p3 p4 p5 l6_7 p2 μ8 Q J23 hp1 hp2 hp3 hp4 hp5 hJ23 h)
      · have h := h.2 k13
        refine x_iload_n 1 rfl dX11_feed_36 ?_
        refine x_goto (tgt := 76) dX11_feed_37 (by decide) ?_
        exact x_sub [0, 1, 2, 3, 4, 5, 6] rfl (xX11_feed_b76 x p1 p2 p3 p4 p5 l6_7 p1 μ8 Q J23 hp1 hp2 hp3 hp4 hp5 hJ23 h)
  · have h := h.2 k6
    refine x_iconst dX11_feed_18 ?_
    exact x_iret h ⟨by decide, by decide⟩ rfl dX11_feed_19
set_option maxRecDepth 100000 in
set_option maxHeartbeats 4000000 in
theorem xX11_look (x : xX) (p1 : Int) (μ : xM) (Q : Int → xM → Prop) (hp1 : xIn p1) (h : tX11_look p1 μ Q) : xMet x 1 yX11_look cX11_look 2 (some .int) [.ref (x.2.2.1 + 260), iV p1] μ (xQi x Q) := by
  refine xMet_of (by decide +kernel) (Nat.le_of_ble_eq_true rfl) ?_
  show xW x (xRm 1, RX11, cX11_look, 2, (some .int), fun _ _ => True) (xQi x Q) 0 [(0, .ref (x.2.2.1 + 260)), (1, iV p1)] [] μ
  refine x_ran (fun n0 => ?_)
  have h := h n0 hp1
  refine x_iload_n 1 rfl dX11_look_0 ?_
  refine x_aload_n 0 rfl dX11_look_1 ?_
  refine x_getI (j := 3) ly260 (by decide) rfl rfl (by decide) inT11 fl_X11_83 dX11_look_2 (fun r1 => ?_)
  refine x_icmpge (tgt := 17) hp1 r1 dX11_look_5 (by decide) (fun k2 => ?_) (fun k2 => ?_)
  · have h := h.1 k2
    refine x_iconst dX11_look_17 ?_
    exact x_iret h ⟨by decide, by decide⟩ rfl dX11_look_18
  · have h := h.2 k2
    refine x_aload_n 0 rfl dX11_look_8 ?_
    refine x_getR (j := 1) (r := 261) ly260 (by decide) rfl rfl (by decide) inT11 fl_X11_7 dX11_look_9 ?_
    refine x_iload_n 1 rfl dX11_look_12 ?_
    obtain ⟨c3, h⟩ := h
    refine x_iald ly261 c3.1 c3.2 hp1 (by decide) dX11_look_13 (fun r4 => ?_)
    refine x_goto (tgt := 18) dX11_look_14 (by decide) ?_
    exact x_iret h r4 rfl dX11_look_18
set_option maxRecDepth 100000 in
set_option maxHeartbeats 4000000 in
theorem xX11_isSmall (x : xX) (p1 : Int) (μ : xM) (Q : Int → xM → Prop) (hp1 : xIn p1) (h : tX11_isSmall p1 μ Q) : xMet x 1 yX11_isSmall cX11_isSmall 1 (some .boolean) [iV p1] μ (xQz x Q) := by
  refine xMet_of (by decide +kernel) (Nat.le_of_ble_eq_true rfl) ?_
  show xW x (xRm 1, RX11, cX11_isSmall, 1, (some .boolean), fun _ _ => True) (xQz x Q) 0 [(0, iV p1)] [] μ
  refine x_ran (fun n0 => ?_)
  have h := h n0 hp1
  refine x_iload_n 0 rfl dX11_isSmall_0 ?_
  refine x_bipush dX11_isSmall_1 (by decide) ?_
  refine x_icmplt (tgt := 16) hp1 ⟨by decide, by decide⟩ dX11_isSmall_3 (by decide) (fun k1 => ?_) (fun k1 => ?_)
  · have h := h.1 k1
    refine x_iconst dX11_isSmall_16 ?_
    exact x_zret h (Or.inl rfl) rfl dX11_isSmall_17
  · have h := h.2 k1
    refine x_iload_n 0 rfl dX11_isSmall_6 ?_
    refine x_bipush dX11_isSmall_7 (by decide) ?_
    refine x_icmpgt (tgt := 16) hp1 ⟨by decide, by decide⟩ dX11_isSmall_9 (by decide) (fun k2 => ?_) (fun k2 => ?_)
    · have h := h.1 k2
      refine x_iconst dX11_isSmall_16 ?_
      exact x_zret h (Or.inl rfl) rfl dX11_isSmall_17
    · have h := h.2 k2
      refine x_iconst dX11_isSmall_12 ?_
      refine x_goto (tgt := 17) dX11_isSmall_13 (by decide) ?_
      exact x_zret h (Or.inr rfl) rfl dX11_isSmall_17
set_option maxRecDepth 100000 in
set_option maxHeartbeats 4000000 in
theorem xX11_isDigit (x : xX) (p1 : Int) (μ : xM) (Q : Int → xM → Prop) (hp1 : xIn p1) (h : tX11_isDigit p1 μ Q) : xMet x 1 yX11_isDigit cX11_isDigit 1 (some .boolean) [iV p1] μ (xQz x Q) := by
  refine xMet_of (by decide +kernel) (Nat.le_of_ble_eq_true rfl) ?_
  show xW x (xRm 1, RX11, cX11_isDigit, 1, (some .boolean), fun _ _ => True) (xQz x Q) 0 [(0, iV p1)] [] μ
  refine x_ran (fun n0 => ?_)
  have h := h n0 hp1
  refine x_iload_n 0 rfl dX11_isDigit_0 ?_
  refine x_bipush dX11_isDigit_1 (by decide) ?_
  refine x_icmplt (tgt := 16) hp1 ⟨by decide, by decide⟩ dX11_isDigit_3 (by decide) (fun k1 => ?_) (fun k1 => ?_)
  · have h := h.1 k1
    refine x_iconst dX11_isDigit_16 ?_
    exact x_zret h (Or.inl rfl) rfl dX11_isDigit_17
  · have h := h.2 k1
    refine x_iload_n 0 rfl dX11_isDigit_6 ?_
    refine x_bipush dX11_isDigit_7 (by decide) ?_
    refine x_icmpgt (tgt := 16) hp1 ⟨by decide, by decide⟩ dX11_isDigit_9 (by decide) (fun k2 => ?_) (fun k2 => ?_)
    · have h := h.1 k2
      refine x_iconst dX11_isDigit_16 ?_
      exact x_zret h (Or.inl rfl) rfl dX11_isDigit_17
    · have h := h.2 k2
      refine x_iconst dX11_isDigit_12 ?_
      refine x_goto (tgt := 17) dX11_isDigit_13 (by decide) ?_
      exact x_zret h (Or.inr rfl) rfl dX11_isDigit_17
set_option maxRecDepth 100000 in
set_option maxHeartbeats 4000000 in
theorem xX11_next (x : xX)  (μ : xM) (Q : xM → Prop)  (h : tX11_next  μ Q) : xMet x 2 yX11_next cX11_next 4 none [.ref (x.2.2.1 + 260)] μ (xQv x Q) := by
  refine xMet_of (by decide +kernel) (Nat.le_of_ble_eq_true rfl) ?_
  show xW x (xRm 2, RX11, cX11_next, 4, none, fun _ _ => True) (xQv x Q) 0 [(0, .ref (x.2.2.1 + 260))] [] μ
  refine x_ran (fun n0 => ?_)
  have h := h n0 
  refine x_aload_n 0 rfl dX11_next_0 ?_
  refine x_getI (j := 5) ly260 (by decide) rfl rfl (by decide) inT11 fl_X11_86 dX11_next_1 (fun r1 => ?_)
  refine x_istore_n [(1, iV (μ 260 5)), (0, .ref (x.2.2.1 + 260))] dX11_next_4 (show 1 < 4 by decide) rfl ?_
  refine x_sub [1, 0] rfl ?_
  refine x_loop1 (fun l1_2 => [(0, .ref (x.2.2.1 + 260)), (1, iV l1_2)]) h (fun J5 l1_2 μ3 hJ5 h n4 => ?_)
  refine x_aload_n 0 rfl dX11_next_5 ?_
  refine x_iload_n 1 rfl dX11_next_6 ?_
  obtain ⟨c5, h⟩ := h
  refine x_callVi (As := [iV l1_2]) (rest := []) cal_X11_look ins_X11_look sel_X11_look ly260 (by decide) rfl (xX11_look x l1_2 _ _ c5 h) rfl ml_X11_89 (xRoom (Nat.le_of_ble_eq_true rfl)) (Nat.le_of_ble_eq_true rfl) dX11_next_7 (fun r8 μ6 i9 n7 h => ?_)
  have h := h i9 n7
  refine x_bipush dX11_next_10 (by decide) ?_
  refine x_icmpne (tgt := 21) i9 ⟨by decide, by decide⟩ dX11_next_12 (by decide) (fun k10 => ?_) (fun k10 => ?_)
  · have h := h.1 k10
    refine x_aload_n 0 rfl dX11_next_21 ?_
    refine x_iload_n 1 rfl dX11_next_22 ?_
    refine x_putI (j := 4) ly260 (by decide) rfl rfl (by decide) inT11 fl_X11_93 tyX11 tyX11_ok nmX11 rfl c5 (by decide +kernel) dX11_next_23 (fun μ11 e13 n12 => ?_)
    have h := h μ11 e13 n12
    refine x_aload_n 0 rfl dX11_next_26 ?_
    refine x_iload_n 1 rfl dX11_next_27 ?_
    refine x_callVi (As := [iV l1_2]) (rest := []) cal_X11_look ins_X11_look sel_X11_look ly260 (by decide) rfl (xX11_look x l1_2 _ _ c5 h) rfl ml_X11_89 (xRoom (Nat.le_of_ble_eq_true rfl)) (Nat.le_of_ble_eq_true rfl) dX11_next_28 (fun r16 μ14 i17 n15 h => ?_)
    have h := h i17 n15
    refine x_istore_n [(2, iV r16), (0, .ref (x.2.2.1 + 260)), (1, iV l1_2)] dX11_next_31 (show 2 < 4 by decide) rfl ?_
    refine x_aload_n 1 rfl dX11_next_32 ?_
    refine x_iconst dX11_next_33 ?_
    refine x_putI (j := 8) ly260 (by decide) rfl rfl (by decide) inT11 fl_X11_96 tyX11 tyX11_ok nmX11 rfl ⟨by decide, by decide⟩ (by decide +kernel) dX11_next_34 (fun μ18 e20 n19 => ?_)
    have h := h μ18 e20 n19
    refine x_aload_n 1 rfl dX11_next_37 ?_
    refine x_iconst dX11_next_38 ?_
    refine x_putI (j := 7) ly260 (by decide) rfl rfl (by decide) inT11 fl_X11_99 tyX11 tyX11_ok nmX11 rfl ⟨by decide, by decide⟩ (by decide +kernel) dX11_next_39 (fun μ21 e23 n22 => ?_)
    have h := h μ21 e23 n22
    refine x_iload_n 0 rfl dX11_next_42 ?_
    refine x_iconst dX11_next_43 ?_
    refine x_icmpne (tgt := 60) i17 ⟨by decide, by decide⟩ dX11_next_44 (by decide) (fun k24 => ?_) (fun k24 => ?_)
    · have h := h.1 k24
      refine x_iload_n 0 rfl dX11_next_60 ?_
      refine x_callSz (As := [iV r16]) (rest := []) cal_X11_isSmall sta_X11_isSmall (xX11_isSmall x r16 _ _ i17 h) rfl ml_X11_105 (xRoom (Nat.le_of_ble_eq_true rfl)) (Nat.le_of_ble_eq_true rfl) dX11_next_61 (fun r27 μ25 i28 n26 h => ?_)
      have h := h i28 n26
      refine x_ifeq (tgt := 143) (xIz i28)  dX11_next_64 (by decide) (fun k29 => ?_) (fun k29 => ?_)
      · have h := h.1 k29
        refine x_iload_n 0 rfl dX11_next_143 ?_
        refine x_callSz (As := [iV r16]) (rest := []) cal_X11_isDigit sta_X11_isDigit (xX11_isDigit x r16 _ _ i17 h) rfl ml_X11_109 (xRoom (Nat.le_of_ble_eq_true rfl)) (Nat.le_of_ble_eq_true rfl) dX11_next_144 (fun r32 μ30 i33 n31 h => ?_)
        have h := h i33 n31
        refine x_ifeq (tgt := 219) (xIz i33)  dX11_next_147 (by decide) (fun k34 => ?_) (fun k34 => ?_)
        · have h := h.1 k34
          refine x_aload_n 1 rfl dX11_next_219 ?_
          refine x_iload_n 2 rfl dX11_next_220 ?_
          refine x_iconst dX11_next_221 ?_
          refine x_iadd dX11_next_222 ?_
          obtain ⟨c35, h⟩ := h
          refine x_putI (j := 5) ly260 (by decide) rfl rfl (by decide) inT11 fl_X11_86 tyX11 tyX11_ok nmX11 rfl c35 (by decide +kernel) dX11_next_223 (fun μ36 e38 n37 => ?_)
          have h := h μ36 e38 n37
          refine x_aload_n 1 rfl dX11_next_226 ?_
          refine x_iload_n 0 rfl dX11_next_227 ?_
          refine x_bipush dX11_next_228 (by decide) ?_
          refine x_icmpeq (tgt := 239) i17 ⟨by decide, by decide⟩ dX11_next_230 (by decide) (fun k39 => ?_) (fun k39 => ?_)
          · have h := h.1 k39
            refine x_iload_n 0 rfl dX11_next_239 ?_
            refine x_goto (tgt := 244) dX11_next_240 (by decide) ?_
            refine x_putI (j := 6) ly260 (by decide) rfl rfl (by decide) inT11 fl_X11_102 tyX11 tyX11_ok nmX11 rfl i17 (by decide +kernel) dX11_next_244 (fun μ40 e42 n41 => ?_)
            have h := h μ40 e42 n41
            exact x_vret h rfl dX11_next_247
          · have h := h.2 k39
            refine x_iload_n 0 rfl dX11_next_233 ?_
            refine x_bipush dX11_next_234 (by decide) ?_
            refine x_icmpne (tgt := 243) i17 ⟨by decide, by decide⟩ dX11_next_236 (by decide) (fun k43 => ?_) (fun k43 => ?_)
            · have h := h.1 k43
              refine x_iconst dX11_next_243 ?_
              refine x_putI (j := 6) ly260 (by decide) rfl rfl (by decide) inT11 fl_X11_102 tyX11 tyX11_ok nmX11 rfl ⟨by decide, by decide⟩ (by decide +kernel) dX11_next_244 (fun μ44 e46 n45 => ?_)
              have h := h μ44 e46 n45
              exact x_vret h rfl dX11_next_247
            · have h := h.2 k43
              refine x_iload_n 0 rfl dX11_next_239 ?_
              refine x_goto (tgt := 244) dX11_next_240 (by decide) ?_
              refine x_putI (j := 6) ly260 (by decide) rfl rfl (by decide) inT11 fl_X11_102 tyX11 tyX11_ok nmX11 rfl i17 (by decide +kernel) dX11_next_244 (fun μ47 e49 n48 => ?_)
              have h := h μ47 e49 n48
              exact x_vret h rfl dX11_next_247
        · have h := h.2 (xz1 i33 k34)
          refine x_iconst dX11_next_150 ?_
          refine x_istore_n [(3, iV 0), (2, iV r16), (0, .ref (x.2.2.1 + 260)), (1, iV l1_2)] dX11_next_151 (show 3 < 4 by decide) rfl ?_
          refine x_sub [2, 3, 0] rfl ?_
          refine x_loop2 (fun l1_50 l3_51 => [(0, .ref (x.2.2.1 + 260)), (1, iV l1_50), (3, iV l3_51)]) h (fun J152 l1_50 l3_51 μ52 hJ152 h n53 => ?_)
          refine x_aload_n 0 rfl dX11_next_152 ?_
          refine x_iload_n 1 rfl dX11_next_153 ?_
          obtain ⟨c54, h⟩ := h
          refine x_callVi (As := [iV l1_50]) (rest := []) cal_X11_look ins_X11_look sel_X11_look ly260 (by decide) rfl (xX11_look x l1_50 _ _ c54 h) rfl ml_X11_89 (xRoom (Nat.le_of_ble_eq_true rfl)) (Nat.le_of_ble_eq_true rfl) dX11_next_154 (fun r57 μ55 i58 n56 h => ?_)
          have h := h i58 n56
          refine x_callSz (As := [iV r57]) (rest := []) cal_X11_isDigit sta_X11_isDigit (xX11_isDigit x r57 _ _ i58 h) rfl ml_X11_109 (xRoom (Nat.le_of_ble_eq_true rfl)) (Nat.le_of_ble_eq_true rfl) dX11_next_157 (fun r61 μ59 i62 n60 h => ?_)
          have h := h i62 n60
          refine x_ifeq (tgt := 197) (xIz i62)  dX11_next_160 (by decide) (fun k63 => ?_) (fun k63 => ?_)
          · have h := h.1 k63
            refine x_aload_n 0 rfl dX11_next_197 ?_
            refine x_iload_n 1 rfl dX11_next_198 ?_
            refine x_putI (j := 5) ly260 (by decide) rfl rfl (by decide) inT11 fl_X11_86 tyX11 tyX11_ok nmX11 rfl c54 (by decide +kernel) dX11_next_199 (fun μ64 e66 n65 => ?_)
            have h := h μ64 e66 n65
            refine x_aload_n 0 rfl dX11_next_202 ?_
            refine x_iload_n 2 rfl dX11_next_203 ?_
            refine x_iconst dX11_next_204 ?_
            obtain ⟨c67, h⟩ := h
            refine x_icmple (tgt := 212) c67 ⟨by decide, by decide⟩ dX11_next_205 (by decide) (fun k68 => ?_) (fun k68 => ?_)
            · have h := h.1 k68
              refine x_iconst dX11_next_212 ?_
              refine x_putI (j := 6) ly260 (by decide) rfl rfl (by decide) inT11 fl_X11_102 tyX11 tyX11_ok nmX11 rfl ⟨by decide, by decide⟩ (by decide +kernel) dX11_next_213 (fun μ69 e71 n70 => ?_)
              have h := h μ69 e71 n70
              refine x_goto (tgt := 247) dX11_next_216 (by decide) ?_
              exact x_vret h rfl dX11_next_247
            · have h := h.2 k68
              refine x_iconst dX11_next_208 ?_
              refine x_goto (tgt := 213) dX11_next_209 (by decide) ?_
              refine x_putI (j := 6) ly260 (by decide) rfl rfl (by decide) inT11 fl_X11_102 tyX11 tyX11_ok nmX11 rfl ⟨by decide, by decide⟩ (by decide +kernel) dX11_next_213 (fun μ72 e74 n73 => ?_)
              have h := h μ72 e74 n73
              refine x_goto (tgt := 247) dX11_next_216 (by decide) ?_
              exact x_vret h rfl dX11_next_247
          · have h := h.2 (xz1 i62 k63)
            refine x_iload_n 2 rfl dX11_next_163 ?_
            refine x_iconst dX11_next_164 ?_
            obtain ⟨c75, h⟩ := h
            refine x_icmpge (tgt := 188) c75 ⟨by decide, by decide⟩ dX11_next_165 (by decide) (fun k76 => ?_) (fun k76 => ?_)
            · have h := h.1 k76
              refine x_iinc 2 rfl [(3, iV (l3_51 + 1)), (0, .ref (x.2.2.1 + 260)), (1, iV l1_50)] dX11_next_188 (show 3 < 4 by decide) rfl ?_
              refine x_iinc 2 rfl [(1, iV (l1_50 + 1)), (3, iV (l3_51 + 1)), (0, .ref (x.2.2.1 + 260))] dX11_next_191 (show 1 < 4 by decide) rfl ?_
              refine x_goto (tgt := 152) dX11_next_194 (by decide) ?_
              exact x_sub [2, 0, 1] rfl (hJ152 _ _ _ h)
            · have h := h.2 k76
              refine x_aload_n 0 rfl dX11_next_168 ?_
              refine x_bipush dX11_next_169 (by decide) ?_
              refine x_aload_n 0 rfl dX11_next_171 ?_
              refine x_getI (j := 7) ly260 (by decide) rfl rfl (by decide) inT11 fl_X11_99 dX11_next_172 (fun r77 => ?_)
              refine x_imul dX11_next_175 ?_
              refine x_aload_n 0 rfl dX11_next_176 ?_
              refine x_iload_n 1 rfl dX11_next_177 ?_
              refine x_callVi (As := [iV l1_50]) (rest := [iV (10 * (μ59 260 7)), .ref (x.2.2.1 + 260)]) cal_X11_look ins_X11_look sel_X11_look ly260 (by decide) rfl (xX11_look x l1_50 _ _ c54 h) rfl ml_X11_89 (xRoom (Nat.le_of_ble_eq_true rfl)) (Nat.le_of_ble_eq_true rfl) dX11_next_178 (fun r80 μ78 i81 n79 h => ?_)
              have h := h i81 n79
              refine x_iadd dX11_next_181 ?_
              refine x_bipush dX11_next_182 (by decide) ?_
              refine x_isub dX11_next_184 ?_
              obtain ⟨c82, h⟩ := h
              refine x_putI (j := 7) ly260 (by decide) rfl rfl (by decide) inT11 fl_X11_99 tyX11 tyX11_ok nmX11 rfl c82 (by decide +kernel) dX11_next_185 (fun μ83 e85 n84 => ?_)
              have h := h μ83 e85 n84
              refine x_iinc 2 rfl [(3, iV (l3_51 + 1)), (0, .ref (x.2.2.1 + 260)), (1, iV l1_50)] dX11_next_188 (show 3 < 4 by decide) rfl ?_
              refine x_iinc 2 rfl [(1, iV (l1_50 + 1)), (3, iV (l3_51 + 1)), (0, .ref (x.2.2.1 + 260))] dX11_next_191 (show 1 < 4 by decide) rfl ?_
              refine x_goto (tgt := 152) dX11_next_194 (by decide) ?_
              exact x_sub [2, 0, 1] rfl (hJ152 _ _ _ h)
      · have h := h.2 (xz1 i28 k29)
        refine x_sub [1, 2] rfl ?_
        refine x_loop1 (fun l1_86 => [(0, .ref (x.2.2.1 + 260)), (1, iV l1_86)]) h (fun J67 l1_86 μ87 hJ67 h n88 => ?_)
        refine x_aload_n 0 rfl dX11_next_67 ?_
        refine x_iload_n 1 rfl dX11_next_68 ?_
        obtain ⟨c89, h⟩ := h
        refine x_callVi (As := [iV l1_86]) (rest := []) cal_X11_look ins_X11_look sel_X11_look ly260 (by decide) rfl (xX11_look x l1_86 _ _ c89 h) rfl ml_X11_89 (xRoom (Nat.le_of_ble_eq_true rfl)) (Nat.le_of_ble_eq_true rfl) dX11_next_69 (fun r92 μ90 i93 n91 h => ?_)
        have h := h i93 n91
        refine x_callSz (As := [iV r92]) (rest := []) cal_X11_isSmall sta_X11_isSmall (xX11_isSmall x r92 _ _ i93 h) rfl ml_X11_105 (xRoom (Nat.le_of_ble_eq_true rfl)) (Nat.le_of_ble_eq_true rfl) dX11_next_72 (fun r96 μ94 i97 n95 h => ?_)
        have h := h i97 n95
        refine x_ifeq (tgt := 117) (xIz i97)  dX11_next_75 (by decide) (fun k98 => ?_) (fun k98 => ?_)
        · have h := h.1 k98
          refine x_aload_n 0 rfl dX11_next_117 ?_
          refine x_iload_n 1 rfl dX11_next_118 ?_
          refine x_putI (j := 5) ly260 (by decide) rfl rfl (by decide) inT11 fl_X11_86 tyX11 tyX11_ok nmX11 rfl c89 (by decide +kernel) dX11_next_119 (fun μ99 e101 n100 => ?_)
          have h := h μ99 e101 n100
          refine x_aload_n 0 rfl dX11_next_122 ?_
          refine x_aload_n 0 rfl dX11_next_123 ?_
          refine x_getI (j := 8) ly260 (by decide) rfl rfl (by decide) inT11 fl_X11_96 dX11_next_124 (fun r102 => ?_)
          refine x_bipush dX11_next_127 (by decide) ?_
          refine x_icmple (tgt := 136) r102 ⟨by decide, by decide⟩ dX11_next_129 (by decide) (fun k103 => ?_) (fun k103 => ?_)
          · have h := h.1 k103
            refine x_iconst dX11_next_136 ?_
            refine x_putI (j := 6) ly260 (by decide) rfl rfl (by decide) inT11 fl_X11_102 tyX11 tyX11_ok nmX11 rfl ⟨by decide, by decide⟩ (by decide +kernel) dX11_next_137 (fun μ104 e106 n105 => ?_)
            have h := h μ104 e106 n105
            refine x_goto (tgt := 247) dX11_next_140 (by decide) ?_
            exact x_vret h rfl dX11_next_247
          · have h := h.2 k103
            refine x_iconst dX11_next_132 ?_
            refine x_goto (tgt := 137) dX11_next_133 (by decide) ?_
            refine x_putI (j := 6) ly260 (by decide) rfl rfl (by decide) inT11 fl_X11_102 tyX11 tyX11_ok nmX11 rfl ⟨by decide, by decide⟩ (by decide +kernel) dX11_next_137 (fun μ107 e109 n108 => ?_)
            have h := h μ107 e109 n108
            refine x_goto (tgt := 247) dX11_next_140 (by decide) ?_
            exact x_vret h rfl dX11_next_247
        · have h := h.2 (xz1 i97 k98)
          refine x_aload_n 0 rfl dX11_next_78 ?_
          refine x_getI (j := 8) ly260 (by decide) rfl rfl (by decide) inT11 fl_X11_96 dX11_next_79 (fun r110 => ?_)
          refine x_bipush dX11_next_82 (by decide) ?_
          refine x_icmpge (tgt := 101) r110 ⟨by decide, by decide⟩ dX11_next_84 (by decide) (fun k111 => ?_) (fun k111 => ?_)
          · have h := h.1 k111
            refine x_aload_n 0 rfl dX11_next_101 ?_
            refine x_dup rfl dX11_next_102 ?_
            refine x_getI (j := 8) ly260 (by decide) rfl rfl (by decide) inT11 fl_X11_96 dX11_next_103 (fun r112 => ?_)
            refine x_iconst dX11_next_106 ?_
            refine x_iadd dX11_next_107 ?_
            obtain ⟨c113, h⟩ := h
            refine x_putI (j := 8) ly260 (by decide) rfl rfl (by decide) inT11 fl_X11_96 tyX11 tyX11_ok nmX11 rfl c113 (by decide +kernel) dX11_next_108 (fun μ114 e116 n115 => ?_)
            have h := h μ114 e116 n115
            refine x_iinc 1 rfl [(1, iV (l1_86 + 1)), (0, .ref (x.2.2.1 + 260))] dX11_next_111 (show 1 < 4 by decide) rfl ?_
            refine x_goto (tgt := 67) dX11_next_114 (by decide) ?_
            exact x_sub [1, 0] rfl (hJ67 _ _ h)
          · have h := h.2 k111
            refine x_aload_n 0 rfl dX11_next_87 ?_
            refine x_getR (j := 12) (r := 262) ly260 (by decide) rfl rfl (by decide) inT11 fl_X11_17 dX11_next_88 ?_
            refine x_aload_n 0 rfl dX11_next_91 ?_
            refine x_getI (j := 8) ly260 (by decide) rfl rfl (by decide) inT11 fl_X11_96 dX11_next_92 (fun r117 => ?_)
            refine x_aload_n 0 rfl dX11_next_95 ?_
            refine x_iload_n 1 rfl dX11_next_96 ?_
            refine x_callVi (As := [iV l1_86]) (rest := [iV (μ94 260 8), .ref (x.2.2.1 + 262)]) cal_X11_look ins_X11_look sel_X11_look ly260 (by decide) rfl (xX11_look x l1_86 _ _ c89 h) rfl ml_X11_89 (xRoom (Nat.le_of_ble_eq_true rfl)) (Nat.le_of_ble_eq_true rfl) dX11_next_97 (fun r120 μ118 i121 n119 h => ?_)
            have h := h i121 n119
            obtain ⟨c122, h⟩ := h
            refine x_iast ly262 c122.1 c122.2 r117 i121 (by decide) dX11_next_100 (fun μ123 e125 n124 => ?_)
            have h := h μ123 e125 n124
            refine x_aload_n 0 rfl dX11_next_101 ?_
            refine x_dup rfl dX11_next_102 ?_
            refine x_getI (j := 8) ly260 (by decide) rfl rfl (by decide) inT11 fl_X11_96 dX11_next_103 (fun r126 => ?_)
            refine x_iconst dX11_next_106 ?_
            refine x_iadd dX11_next_107 ?_
            obtain ⟨c127, h⟩ := h
            refine x_putI (j := 8) ly260 (by decide) rfl rfl (by decide) inT11 fl_X11_96 tyX11 tyX11_ok nmX11 rfl c127 (by decide +kernel) dX11_next_108 (fun μ128 e130 n129 => ?_)
            have h := h μ128 e130 n129
            refine x_iinc 1 rfl [(1, iV (l1_86 + 1)), (0, .ref (x.2.2.1 + 260))] dX11_next_111 (show 1 < 4 by decide) rfl ?_
            refine x_goto (tgt := 67) dX11_next_114 (by decide) ?_
            exact x_sub [1, 0] rfl (hJ67 _ _ h)
    · have h := h.2 k24
      refine x_aload_n 1 rfl dX11_next_47 ?_
      refine x_iconst dX11_next_48 ?_
      refine x_putI (j := 6) ly260 (by decide) rfl rfl (by decide) inT11 fl_X11_102 tyX11 tyX11_ok nmX11 rfl ⟨by decide, by decide⟩ (by decide +kernel) dX11_next_49 (fun μ131 e133 n132 => ?_)
      have h := h μ131 e133 n132
      refine x_aload_n 1 rfl dX11_next_52 ?_
      refine x_iload_n 2 rfl dX11_next_53 ?_
      refine x_putI (j := 5) ly260 (by decide) rfl rfl (by decide) inT11 fl_X11_86 tyX11 tyX11_ok nmX11 rfl c5 (by decide +kernel) dX11_next_54 (fun μ134 e136 n135 => ?_)
      have h := h μ134 e136 n135
      refine x_goto (tgt := 247) dX11_next_57 (by decide) ?_
      exact x_vret h rfl dX11_next_247
  · have h := h.2 k10
    refine x_iinc 1 rfl [(1, iV (l1_2 + 1)), (0, .ref (x.2.2.1 + 260))] dX11_next_15 (show 1 < 4 by decide) rfl ?_
    refine x_goto (tgt := 5) dX11_next_18 (by decide) ?_
    exact x_sub [1, 0] rfl (hJ5 _ _ h)
set_option maxRecDepth 100000 in
set_option maxHeartbeats 4000000 in
theorem xX11_wrong (x : xX) (p1 : Int) (p2 : Int) (μ : xM) (Q : xM → Prop) (hp1 : xIn p1) (hp2 : xIn p2) (h : tX11_wrong p1 p2 μ Q) : xMet x 1 yX11_wrong cX11_wrong 3 none [.ref (x.2.2.1 + 260), iV p1, iV p2] μ (xQv x Q) := by
  refine xMet_of (by decide +kernel) (Nat.le_of_ble_eq_true rfl) ?_
  show xW x (xRm 1, RX11, cX11_wrong, 3, none, fun _ _ => True) (xQv x Q) 0 [(0, .ref (x.2.2.1 + 260)), (1, iV p1), (2, iV p2)] [] μ
  refine x_ran (fun n0 => ?_)
  have h := h n0 hp1 hp2
  refine x_aload_n 0 rfl dX11_wrong_0 ?_
  refine x_getI (j := 13) ly260 (by decide) rfl rfl (by decide) inT11 fl_X11_112 dX11_wrong_1 (fun r1 => ?_)
  refine x_ifeq (tgt := 8) r1  dX11_wrong_4 (by decide) (fun k2 => ?_) (fun k2 => ?_)
  · have h := h.1 k2
    refine x_aload_n 0 rfl dX11_wrong_8 ?_
    refine x_iconst dX11_wrong_9 ?_
    refine x_putZ (j := 13) ly260 (by decide) rfl rfl (by decide) inT11 fl_X11_112 tyX11 tyX11_ok nmX11 rfl (Or.inr rfl) (by decide +kernel) dX11_wrong_10 (fun μ3 e5 n4 => ?_)
    have h := h μ3 e5 n4
    refine x_aload_n 0 rfl dX11_wrong_13 ?_
    refine x_iload_n 1 rfl dX11_wrong_14 ?_
    refine x_putI (j := 9) ly260 (by decide) rfl rfl (by decide) inT11 fl_X11_116 tyX11 tyX11_ok nmX11 rfl hp1 (by decide +kernel) dX11_wrong_15 (fun μ6 e8 n7 => ?_)
    have h := h μ6 e8 n7
    refine x_aload_n 0 rfl dX11_wrong_18 ?_
    refine x_iload_n 2 rfl dX11_wrong_19 ?_
    refine x_putI (j := 10) ly260 (by decide) rfl rfl (by decide) inT11 fl_X11_13 tyX11 tyX11_ok nmX11 rfl hp2 (by decide +kernel) dX11_wrong_20 (fun μ9 e11 n10 => ?_)
    have h := h μ9 e11 n10
    exact x_vret h rfl dX11_wrong_23
  · have h := h.2 k2
    exact x_vret h rfl dX11_wrong_7
set_option maxRecDepth 100000 in
set_option maxHeartbeats 4000000 in
theorem xX11_isWord (x : xX) (p1 : Nat) (μ : xM) (Q : Int → xM → Prop) (hp1 : p1 < 13) (h : tX11_isWord p1 μ Q) : xMet x 5 yX11_isWord cX11_isWord 4 (some .boolean) [.ref (x.2.2.1 + 260), .ref (x.2.2.2.1 p1)] μ (xQz x Q) := by
  refine xMet_of (by decide +kernel) (Nat.le_of_ble_eq_true rfl) ?_
  show xW x (xRm 5, RX11, cX11_isWord, 4, (some .boolean), fun _ _ => True) (xQz x Q) 0 [(0, .ref (x.2.2.1 + 260)), (1, .ref (x.2.2.2.1 p1))] [] μ
  refine x_ran (fun n0 => ?_)
  have h := h n0 
  refine x_aload_n 0 rfl dX11_isWord_0 ?_
  refine x_getI (j := 13) ly260 (by decide) rfl rfl (by decide) inT11 fl_X11_112 dX11_isWord_1 (fun r1 => ?_)
  refine x_ifne (tgt := 26) r1  dX11_isWord_4 (by decide) (fun k2 => ?_) (fun k2 => ?_)
  · have h := h.1 k2
    refine x_iconst dX11_isWord_26 ?_
    exact x_zret h (Or.inl rfl) rfl dX11_isWord_27
  · have h := h.2 k2
    refine x_aload_n 0 rfl dX11_isWord_7 ?_
    refine x_getI (j := 6) ly260 (by decide) rfl rfl (by decide) inT11 fl_X11_102 dX11_isWord_8 (fun r3 => ?_)
    refine x_iconst dX11_isWord_11 ?_
    refine x_icmpne (tgt := 26) r3 ⟨by decide, by decide⟩ dX11_isWord_12 (by decide) (fun k4 => ?_) (fun k4 => ?_)
    · have h := h.1 k4
      refine x_iconst dX11_isWord_26 ?_
      exact x_zret h (Or.inl rfl) rfl dX11_isWord_27
    · have h := h.2 k4
      refine x_aload_n 0 rfl dX11_isWord_15 ?_
      refine x_getI (j := 8) ly260 (by decide) rfl rfl (by decide) inT11 fl_X11_96 dX11_isWord_16 (fun r5 => ?_)
      refine x_aload_n 1 rfl dX11_isWord_19 ?_
      refine x_slen hp1 ml_X11_119 (xRoom (by decide)) (Nat.le_of_ble_eq_true rfl) dX11_isWord_20 ?_
      refine x_icmpeq (tgt := 28) r5 (sLen_in _) dX11_isWord_23 (by decide) (fun k6 => ?_) (fun k6 => ?_)
      · have h := h.1 k6
        refine x_iconst dX11_isWord_28 ?_
        refine x_istore_n [(2, iV 1), (0, .ref (x.2.2.1 + 260)), (1, .ref (x.2.2.2.1 p1))] dX11_isWord_29 (show 2 < 4 by decide) rfl ?_
        refine x_iconst dX11_isWord_30 ?_
        refine x_istore_n [(3, iV 0), (2, iV 1), (0, .ref (x.2.2.1 + 260)), (1, .ref (x.2.2.2.1 p1))] dX11_isWord_31 (show 3 < 4 by decide) rfl ?_
        refine x_sub [2, 3, 1, 0] rfl ?_
        refine x_loop2 (fun l2_7 l3_8 => [(0, .ref (x.2.2.1 + 260)), (1, .ref (x.2.2.2.1 p1)), (2, iV l2_7), (3, iV l3_8)]) h (fun J32 l2_7 l3_8 μ9 hJ32 h n10 => ?_)
        refine x_iload_n 3 rfl dX11_isWord_32 ?_
        refine x_aload_n 0 rfl dX11_isWord_33 ?_
        refine x_getI (j := 8) ly260 (by decide) rfl rfl (by decide) inT11 fl_X11_96 dX11_isWord_34 (fun r11 => ?_)
        obtain ⟨c12, h⟩ := h
        refine x_icmpge (tgt := 70) c12 r11 dX11_isWord_37 (by decide) (fun k13 => ?_) (fun k13 => ?_)
        · have h := h.1 k13
          refine x_iload_n 2 rfl dX11_isWord_70 ?_
          obtain ⟨c14, h⟩ := h
          exact x_zret h c14 rfl dX11_isWord_71
        · have h := h.2 k13
          refine x_iload_n 2 rfl dX11_isWord_40 ?_
          obtain ⟨c15, h⟩ := h
          refine x_ifeq (tgt := 62) c15  dX11_isWord_41 (by decide) (fun k16 => ?_) (fun k16 => ?_)
          · have h := h.1 k16
            refine x_iconst dX11_isWord_62 ?_
            refine x_istore_n [(2, iV 0), (0, .ref (x.2.2.1 + 260)), (1, .ref (x.2.2.2.1 p1)), (3, iV l3_8)] dX11_isWord_63 (show 2 < 4 by decide) rfl ?_
            refine x_iinc 3 rfl [(3, iV (l3_8 + 1)), (2, iV 0), (0, .ref (x.2.2.1 + 260)), (1, .ref (x.2.2.2.1 p1))] dX11_isWord_64 (show 3 < 4 by decide) rfl ?_
            refine x_goto (tgt := 32) dX11_isWord_67 (by decide) ?_
            exact x_sub [2, 3, 1, 0] rfl (hJ32 _ _ _ h)
          · have h := h.2 k16
            refine x_aload_n 0 rfl dX11_isWord_44 ?_
            refine x_getR (j := 12) (r := 262) ly260 (by decide) rfl rfl (by decide) inT11 fl_X11_17 dX11_isWord_45 ?_
            refine x_iload_n 3 rfl dX11_isWord_48 ?_
            obtain ⟨c17, h⟩ := h
            refine x_iald ly262 c17.1 c17.2 (xIb (n := 8) c17 (by decide)) (by decide) dX11_isWord_49 (fun r18 => ?_)
            refine x_aload_n 1 rfl dX11_isWord_50 ?_
            refine x_iload_n 3 rfl dX11_isWord_51 ?_
            obtain ⟨c19, h⟩ := h
            refine x_schr hp1 c19.1 c19.2 c12 ml_X11_125 (xRoom (by decide)) (Nat.le_of_ble_eq_true rfl) dX11_isWord_52 ?_
            refine x_icmpne (tgt := 62) r18 (sChr_in _ _) dX11_isWord_55 (by decide) (fun k20 => ?_) (fun k20 => ?_)
            · have h := h.1 k20
              refine x_iconst dX11_isWord_62 ?_
              refine x_istore_n [(2, iV 0), (0, .ref (x.2.2.1 + 260)), (1, .ref (x.2.2.2.1 p1)), (3, iV l3_8)] dX11_isWord_63 (show 2 < 4 by decide) rfl ?_
              refine x_iinc 3 rfl [(3, iV (l3_8 + 1)), (2, iV 0), (0, .ref (x.2.2.1 + 260)), (1, .ref (x.2.2.2.1 p1))] dX11_isWord_64 (show 3 < 4 by decide) rfl ?_
              refine x_goto (tgt := 32) dX11_isWord_67 (by decide) ?_
              exact x_sub [2, 3, 1, 0] rfl (hJ32 _ _ _ h)
            · have h := h.2 k20
              refine x_iconst dX11_isWord_58 ?_
              refine x_goto (tgt := 63) dX11_isWord_59 (by decide) ?_
              refine x_istore_n [(2, iV 1), (0, .ref (x.2.2.1 + 260)), (1, .ref (x.2.2.2.1 p1)), (3, iV l3_8)] dX11_isWord_63 (show 2 < 4 by decide) rfl ?_
              refine x_iinc 3 rfl [(3, iV (l3_8 + 1)), (2, iV 1), (0, .ref (x.2.2.1 + 260)), (1, .ref (x.2.2.2.1 p1))] dX11_isWord_64 (show 3 < 4 by decide) rfl ?_
              refine x_goto (tgt := 32) dX11_isWord_67 (by decide) ?_
              exact x_sub [2, 3, 1, 0] rfl (hJ32 _ _ _ h)
      · have h := h.2 k6
        refine x_iconst dX11_isWord_26 ?_
        exact x_zret h (Or.inl rfl) rfl dX11_isWord_27
set_option maxRecDepth 100000 in
set_option maxHeartbeats 4000000 in
theorem xX11_takes (x : xX) (p1 : Nat) (μ : xM) (Q : Int → xM → Prop) (hp1 : p1 < 13) (h : tX11_takes p1 μ Q) : xMet x 6 yX11_takes cX11_takes 2 (some .boolean) [.ref (x.2.2.1 + 260), .ref (x.2.2.2.1 p1)] μ (xQz x Q) := by
  refine xMet_of (by decide +kernel) (Nat.le_of_ble_eq_true rfl) ?_
  show xW x (xRm 6, RX11, cX11_takes, 2, (some .boolean), fun _ _ => True) (xQz x Q) 0 [(0, .ref (x.2.2.1 + 260)), (1, .ref (x.2.2.2.1 p1))] [] μ
  refine x_ran (fun n0 => ?_)
  have h := h n0 
  refine x_aload_n 0 rfl dX11_takes_0 ?_
  refine x_aload_n 1 rfl dX11_takes_1 ?_
  refine x_callVz (As := [.ref (x.2.2.2.1 p1)]) (rest := []) cal_X11_isWord ins_X11_isWord sel_X11_isWord ly260 (by decide) rfl (xX11_isWord x p1 _ _ hp1 h) rfl ml_X11_129 (xRoom (Nat.le_of_ble_eq_true rfl)) (Nat.le_of_ble_eq_true rfl) dX11_takes_2 (fun r3 μ1 i4 n2 h => ?_)
  have h := h i4 n2
  refine x_ifne (tgt := 10) (xIz i4)  dX11_takes_5 (by decide) (fun k5 => ?_) (fun k5 => ?_)
  · have h := h.1 (xz1 i4 k5)
    refine x_aload_n 0 rfl dX11_takes_10 ?_
    refine x_callVv (As := []) (rest := []) cal_X11_next ins_X11_next sel_X11_next ly260 (by decide) rfl (xX11_next x  _ _  h) rfl ml_X11_133 (xRoom (Nat.le_of_ble_eq_true rfl)) (Nat.le_of_ble_eq_true rfl) dX11_takes_11 (fun μ6 n7 h => ?_)
    have h := h n7
    refine x_iconst dX11_takes_14 ?_
    exact x_zret h (Or.inr rfl) rfl dX11_takes_15
  · have h := h.2 k5
    refine x_iconst dX11_takes_8 ?_
    exact x_zret h (Or.inl rfl) rfl dX11_takes_9
set_option maxRecDepth 100000 in
set_option maxHeartbeats 4000000 in
theorem xX11_must (x : xX) (p1 : Nat) (μ : xM) (Q : xM → Prop) (hp1 : p1 < 13) (h : tX11_must p1 μ Q) : xMet x 7 yX11_must cX11_must 2 none [.ref (x.2.2.1 + 260), .ref (x.2.2.2.1 p1)] μ (xQv x Q) := by
  refine xMet_of (by decide +kernel) (Nat.le_of_ble_eq_true rfl) ?_
  show xW x (xRm 7, RX11, cX11_must, 2, none, fun _ _ => True) (xQv x Q) 0 [(0, .ref (x.2.2.1 + 260)), (1, .ref (x.2.2.2.1 p1))] [] μ
  refine x_ran (fun n0 => ?_)
  have h := h n0 
  refine x_aload_n 0 rfl dX11_must_0 ?_
  refine x_getI (j := 13) ly260 (by decide) rfl rfl (by decide) inT11 fl_X11_112 dX11_must_1 (fun r1 => ?_)
  refine x_ifne (tgt := 24) r1  dX11_must_4 (by decide) (fun k2 => ?_) (fun k2 => ?_)
  · have h := h.1 k2
    exact x_vret h rfl dX11_must_24
  · have h := h.2 k2
    refine x_aload_n 0 rfl dX11_must_7 ?_
    refine x_aload_n 1 rfl dX11_must_8 ?_
    refine x_callVz (As := [.ref (x.2.2.2.1 p1)]) (rest := []) cal_X11_takes ins_X11_takes sel_X11_takes ly260 (by decide) rfl (xX11_takes x p1 _ _ hp1 h) rfl ml_X11_136 (xRoom (Nat.le_of_ble_eq_true rfl)) (Nat.le_of_ble_eq_true rfl) dX11_must_9 (fun r5 μ3 i6 n4 h => ?_)
    have h := h i6 n4
    refine x_ifne (tgt := 24) (xIz i6)  dX11_must_12 (by decide) (fun k7 => ?_) (fun k7 => ?_)
    · have h := h.1 (xz1 i6 k7)
      exact x_vret h rfl dX11_must_24
    · have h := h.2 k7
      refine x_aload_n 0 rfl dX11_must_15 ?_
      refine x_iconst dX11_must_16 ?_
      refine x_aload_n 0 rfl dX11_must_17 ?_
      refine x_getI (j := 4) ly260 (by decide) rfl rfl (by decide) inT11 fl_X11_93 dX11_must_18 (fun r8 => ?_)
      refine x_callVv (As := [iV 1, iV (μ3 260 4)]) (rest := []) cal_X11_wrong ins_X11_wrong sel_X11_wrong ly260 (by decide) rfl (xX11_wrong x 1 (μ3 260 4) _ _ ⟨by decide, by decide⟩ r8 h) rfl ml_X11_139 (xRoom (Nat.le_of_ble_eq_true rfl)) (Nat.le_of_ble_eq_true rfl) dX11_must_21 (fun μ9 n10 h => ?_)
      have h := h n10
      exact x_vret h rfl dX11_must_24
set_option maxRecDepth 100000 in
set_option maxHeartbeats 4000000 in
theorem xX11_mustWord (x : xX)  (μ : xM) (Q : xM → Prop)  (h : tX11_mustWord  μ Q) : xMet x 2 yX11_mustWord cX11_mustWord 1 none [.ref (x.2.2.1 + 260)] μ (xQv x Q) := by
  refine xMet_of (by decide +kernel) (Nat.le_of_ble_eq_true rfl) ?_
  show xW x (xRm 2, RX11, cX11_mustWord, 1, none, fun _ _ => True) (xQv x Q) 0 [(0, .ref (x.2.2.1 + 260))] [] μ
  refine x_ran (fun n0 => ?_)
  have h := h n0 
  refine x_aload_n 0 rfl dX11_mustWord_0 ?_
  refine x_getI (j := 13) ly260 (by decide) rfl rfl (by decide) inT11 fl_X11_112 dX11_mustWord_1 (fun r1 => ?_)
  refine x_ifne (tgt := 24) r1  dX11_mustWord_4 (by decide) (fun k2 => ?_) (fun k2 => ?_)
  · have h := h.1 k2
    exact x_vret h rfl dX11_mustWord_24
  · have h := h.2 k2
    refine x_aload_n 0 rfl dX11_mustWord_7 ?_
    refine x_getI (j := 6) ly260 (by decide) rfl rfl (by decide) inT11 fl_X11_102 dX11_mustWord_8 (fun r3 => ?_)
    refine x_iconst dX11_mustWord_11 ?_
    refine x_icmpeq (tgt := 24) r3 ⟨by decide, by decide⟩ dX11_mustWord_12 (by decide) (fun k4 => ?_) (fun k4 => ?_)
    · have h := h.1 k4
      exact x_vret h rfl dX11_mustWord_24
    · have h := h.2 k4
      refine x_aload_n 0 rfl dX11_mustWord_15 ?_
      refine x_iconst dX11_mustWord_16 ?_
      refine x_aload_n 0 rfl dX11_mustWord_17 ?_
      refine x_getI (j := 4) ly260 (by decide) rfl rfl (by decide) inT11 fl_X11_93 dX11_mustWord_18 (fun r5 => ?_)
      refine x_callVv (As := [iV 1, iV (μ 260 4)]) (rest := []) cal_X11_wrong ins_X11_wrong sel_X11_wrong ly260 (by decide) rfl (xX11_wrong x 1 (μ 260 4) _ _ ⟨by decide, by decide⟩ r5 h) rfl ml_X11_139 (xRoom (Nat.le_of_ble_eq_true rfl)) (Nat.le_of_ble_eq_true rfl) dX11_mustWord_21 (fun μ6 n7 h => ?_)
      have h := h n7
      exact x_vret h rfl dX11_mustWord_24
set_option maxRecDepth 100000 in
set_option maxHeartbeats 4000000 in
theorem xX11_number (x : xX) (p1 : Int) (p2 : Int) (μ : xM) (Q : Int → xM → Prop) (hp1 : xIn p1) (hp2 : xIn p2) (h : tX11_number p1 p2 μ Q) : xMet x 3 yX11_number cX11_number 4 (some .int) [.ref (x.2.2.1 + 260), iV p1, iV p2] μ (xQi x Q) := by
  refine xMet_of (by decide +kernel) (Nat.le_of_ble_eq_true rfl) ?_
  show xW x (xRm 3, RX11, cX11_number, 4, (some .int), fun _ _ => True) (xQi x Q) 0 [(0, .ref (x.2.2.1 + 260)), (1, iV p1), (2, iV p2)] [] μ
  refine x_ran (fun n0 => ?_)
  have h := h n0 hp1 hp2
  refine x_aload_n 0 rfl dX11_number_0 ?_
  refine x_getI (j := 13) ly260 (by decide) rfl rfl (by decide) inT11 fl_X11_112 dX11_number_1 (fun r1 => ?_)
  refine x_ifeq (tgt := 9) r1  dX11_number_4 (by decide) (fun k2 => ?_) (fun k2 => ?_)
  · have h := h.1 k2
    refine x_aload_n 0 rfl dX11_number_9 ?_
    refine x_getI (j := 6) ly260 (by decide) rfl rfl (by decide) inT11 fl_X11_102 dX11_number_10 (fun r3 => ?_)
    refine x_iconst dX11_number_13 ?_
    refine x_icmpeq (tgt := 28) r3 ⟨by decide, by decide⟩ dX11_number_14 (by decide) (fun k4 => ?_) (fun k4 => ?_)
    · have h := h.1 k4
      refine x_aload_n 0 rfl dX11_number_28 ?_
      refine x_getI (j := 7) ly260 (by decide) rfl rfl (by decide) inT11 fl_X11_99 dX11_number_29 (fun r5 => ?_)
      refine x_istore_n [(3, iV (μ 260 7)), (0, .ref (x.2.2.1 + 260)), (1, iV p1), (2, iV p2)] dX11_number_32 (show 3 < 4 by decide) rfl ?_
      refine x_iload_n 0 rfl dX11_number_33 ?_
      refine x_iload_n 2 rfl dX11_number_34 ?_
      refine x_iload_n 3 rfl dX11_number_35 ?_
      refine x_callSz (As := [iV (μ 260 7), iV p1, iV p2]) (rest := []) cal_X11_within sta_X11_within (xX11_within x (μ 260 7) p1 p2 _ _ r5 hp1 hp2 h) rfl ml_X11_143 (xRoom (Nat.le_of_ble_eq_true rfl)) (Nat.le_of_ble_eq_true rfl) dX11_number_36 (fun r8 μ6 i9 n7 h => ?_)
      have h := h i9 n7
      refine x_ifne (tgt := 53) (xIz i9)  dX11_number_39 (by decide) (fun k10 => ?_) (fun k10 => ?_)
      · have h := h.1 (xz1 i9 k10)
        refine x_aload_n 1 rfl dX11_number_53 ?_
        refine x_callVv (As := []) (rest := []) cal_X11_next ins_X11_next sel_X11_next ly260 (by decide) rfl (xX11_next x  _ _  h) rfl ml_X11_133 (xRoom (Nat.le_of_ble_eq_true rfl)) (Nat.le_of_ble_eq_true rfl) dX11_number_54 (fun μ11 n12 h => ?_)
        have h := h n12
        refine x_iload_n 0 rfl dX11_number_57 ?_
        exact x_iret h r5 rfl dX11_number_58
      · have h := h.2 k10
        refine x_aload_n 1 rfl dX11_number_42 ?_
        refine x_iconst dX11_number_43 ?_
        refine x_aload_n 1 rfl dX11_number_44 ?_
        refine x_getI (j := 4) ly260 (by decide) rfl rfl (by decide) inT11 fl_X11_93 dX11_number_45 (fun r13 => ?_)
        refine x_callVv (As := [iV 4, iV (μ6 260 4)]) (rest := []) cal_X11_wrong ins_X11_wrong sel_X11_wrong ly260 (by decide) rfl (xX11_wrong x 4 (μ6 260 4) _ _ ⟨by decide, by decide⟩ r13 h) rfl ml_X11_139 (xRoom (Nat.le_of_ble_eq_true rfl)) (Nat.le_of_ble_eq_true rfl) dX11_number_48 (fun μ14 n15 h => ?_)
        have h := h n15
        refine x_iload_n 2 rfl dX11_number_51 ?_
        exact x_iret h hp1 rfl dX11_number_52
    · have h := h.2 k4
      refine x_aload_n 0 rfl dX11_number_17 ?_
      refine x_iconst dX11_number_18 ?_
      refine x_aload_n 0 rfl dX11_number_19 ?_
      refine x_getI (j := 4) ly260 (by decide) rfl rfl (by decide) inT11 fl_X11_93 dX11_number_20 (fun r16 => ?_)
      refine x_callVv (As := [iV 1, iV (μ 260 4)]) (rest := []) cal_X11_wrong ins_X11_wrong sel_X11_wrong ly260 (by decide) rfl (xX11_wrong x 1 (μ 260 4) _ _ ⟨by decide, by decide⟩ r16 h) rfl ml_X11_139 (xRoom (Nat.le_of_ble_eq_true rfl)) (Nat.le_of_ble_eq_true rfl) dX11_number_23 (fun μ17 n18 h => ?_)
      have h := h n18
      refine x_iload_n 1 rfl dX11_number_26 ?_
      exact x_iret h hp1 rfl dX11_number_27
  · have h := h.2 k2
    refine x_iload_n 1 rfl dX11_number_7 ?_
    exact x_iret h hp1 rfl dX11_number_8
set_option maxRecDepth 100000 in
set_option maxHeartbeats 4000000 in
theorem xX11_told (x : xX) (p1 : Nat) (p2 : Int) (p3 : Int) (μ : xM) (Q : Int → xM → Prop) (hp1 : p1 < 13) (hp2 : xIn p2) (hp3 : xIn p3) (h : tX11_told p1 p2 p3 μ Q) : xMet x 8 yX11_told cX11_told 4 (some .int) [.ref (x.2.2.1 + 260), .ref (x.2.2.2.1 p1), iV p2, iV p3] μ (xQi x Q) := by
  refine xMet_of (by decide +kernel) (Nat.le_of_ble_eq_true rfl) ?_
  show xW x (xRm 8, RX11, cX11_told, 4, (some .int), fun _ _ => True) (xQi x Q) 0 [(0, .ref (x.2.2.1 + 260)), (1, .ref (x.2.2.2.1 p1)), (2, iV p2), (3, iV p3)] [] μ
  refine x_ran (fun n0 => ?_)
  have h := h n0 hp2 hp3
  refine x_aload_n 0 rfl dX11_told_0 ?_
  refine x_aload_n 1 rfl dX11_told_1 ?_
  refine x_callVv (As := [.ref (x.2.2.2.1 p1)]) (rest := []) cal_X11_must ins_X11_must sel_X11_must ly260 (by decide) rfl (xX11_must x p1 _ _ hp1 h) rfl ml_X11_147 (xRoom (Nat.le_of_ble_eq_true rfl)) (Nat.le_of_ble_eq_true rfl) dX11_told_2 (fun μ1 n2 h => ?_)
  have h := h n2
  refine x_aload_n 0 rfl dX11_told_5 ?_
  refine x_iload_n 2 rfl dX11_told_6 ?_
  refine x_iload_n 3 rfl dX11_told_7 ?_
  refine x_callVi (As := [iV p2, iV p3]) (rest := []) cal_X11_number ins_X11_number sel_X11_number ly260 (by decide) rfl (xX11_number x p2 p3 _ _ hp2 hp3 h) rfl ml_X11_151 (xRoom (Nat.le_of_ble_eq_true rfl)) (Nat.le_of_ble_eq_true rfl) dX11_told_8 (fun r5 μ3 i6 n4 h => ?_)
  have h := h i6 n4
  exact x_iret h i6 rfl dX11_told_11
set_option maxRecDepth 100000 in
set_option maxHeartbeats 4000000 in
theorem xX11_comma (x : xX)  (μ : xM) (Q : Int → xM → Prop)  (h : tX11_comma  μ Q) : xMet x 3 yX11_comma cX11_comma 1 (some .boolean) [.ref (x.2.2.1 + 260)] μ (xQz x Q) := by
  refine xMet_of (by decide +kernel) (Nat.le_of_ble_eq_true rfl) ?_
  show xW x (xRm 3, RX11, cX11_comma, 1, (some .boolean), fun _ _ => True) (xQz x Q) 0 [(0, .ref (x.2.2.1 + 260))] [] μ
  refine x_ran (fun n0 => ?_)
  have h := h n0 
  refine x_aload_n 0 rfl dX11_comma_0 ?_
  refine x_getI (j := 13) ly260 (by decide) rfl rfl (by decide) inT11 fl_X11_112 dX11_comma_1 (fun r1 => ?_)
  refine x_ifne (tgt := 16) r1  dX11_comma_4 (by decide) (fun k2 => ?_) (fun k2 => ?_)
  · have h := h.1 k2
    refine x_iconst dX11_comma_16 ?_
    exact x_zret h (Or.inl rfl) rfl dX11_comma_17
  · have h := h.2 k2
    refine x_aload_n 0 rfl dX11_comma_7 ?_
    refine x_getI (j := 6) ly260 (by decide) rfl rfl (by decide) inT11 fl_X11_102 dX11_comma_8 (fun r3 => ?_)
    refine x_bipush dX11_comma_11 (by decide) ?_
    refine x_icmpeq (tgt := 18) r3 ⟨by decide, by decide⟩ dX11_comma_13 (by decide) (fun k4 => ?_) (fun k4 => ?_)
    · have h := h.1 k4
      refine x_aload_n 0 rfl dX11_comma_18 ?_
      refine x_callVv (As := []) (rest := []) cal_X11_next ins_X11_next sel_X11_next ly260 (by decide) rfl (xX11_next x  _ _  h) rfl ml_X11_133 (xRoom (Nat.le_of_ble_eq_true rfl)) (Nat.le_of_ble_eq_true rfl) dX11_comma_19 (fun μ5 n6 h => ?_)
      have h := h n6
      refine x_iconst dX11_comma_22 ?_
      exact x_zret h (Or.inr rfl) rfl dX11_comma_23
    · have h := h.2 k4
      refine x_iconst dX11_comma_16 ?_
      exact x_zret h (Or.inl rfl) rfl dX11_comma_17
set_option maxRecDepth 100000 in
set_option maxHeartbeats 4000000 in
theorem xX11_find_b30 (x : xX) (p1 : Int) (p2 : Int) (p3 : Int) (p4 : Int) (b5 : Int) (s0 : Int) (μ : xM) (Q : Int → xM → Prop) (J3 : Int → xM → Prop) (hp1 : xIn p1) (hp2 : xIn p2) (hp3 : xIn p3) (hp4 : xIn p4)  (hJ3 : ∀ (c5 : Int) (ν : xM), J3 c5 ν → xW x (xRm 1, RX11, cX11_find, 8, (some .int), fun _ _ => True) (xQi x Q) 3 [(0, .ref (x.2.2.1 + 260)), (1, iV p1), (2, iV p2), (3, iV p3), (4, iV p4), (5, iV c5)] [] ν) (h : tX11_find_b30 p1 p2 p3 p4 b5 s0 μ Q J3) : xW x (xRm 1, RX11, cX11_find, 8, (some .int), fun _ _ => True) (xQi x Q) 30 [(0, .ref (x.2.2.1 + 260)), (1, iV p1), (2, iV p2), (3, iV p3), (4, iV p4), (5, iV b5)] [iV s0] μ := by
  refine x_ran (fun n0 => ?_)
  have h := h n0
  refine x_istore [(6, iV s0), (0, .ref (x.2.2.1 + 260)), (1, iV p1), (2, iV p2), (3, iV p3), (4, iV p4), (5, iV b5)] dX11_find_30 (show 6 < 8 by decide) rfl ?_
  refine x_iconst dX11_find_32 ?_
  refine x_istore [(7, iV 0), (6, iV s0), (0, .ref (x.2.2.1 + 260)), (1, iV p1), (2, iV p2), (3, iV p3), (4, iV p4), (5, iV b5)] dX11_find_33 (show 7 < 8 by decide) rfl ?_
  refine x_sub [2, 3, 4, 5, 6, 7, 1, 0] rfl ?_
  refine x_loop2 (fun l6_10 l7_11 => [(0, .ref (x.2.2.1 + 260)), (1, iV p1), (2, iV p2), (3, iV p3), (4, iV p4), (5, iV b5), (6, iV l6_10), (7, iV l7_11)]) h (fun J35 l6_10 l7_11 μ12 hJ35 h n13 => ?_)
  refine x_iload 7 rfl dX11_find_35 ?_
  refine x_aload_n 0 rfl dX11_find_37 ?_
  refine x_getI (j := 8) ly260 (by decide) rfl rfl (by decide) inT11 fl_X11_96 dX11_find_38 (fun r14 => ?_)
  obtain ⟨c15, h⟩ := h
  refine x_icmpge (tgt := 87) c15 r14 dX11_find_41 (by decide) (fun k16 => ?_) (fun k16 => ?_)
  · have h := h.1 k16
    refine x_iload 6 rfl dX11_find_87 ?_
    obtain ⟨c17, h⟩ := h
    refine x_ifeq (tgt := 95) c17  dX11_find_89 (by decide) (fun k18 => ?_) (fun k18 => ?_)
    · have h := h.1 k18
      refine x_iinc 5 rfl [(5, iV (b5 + 1)), (0, .ref (x.2.2.1 + 260)), (1, iV p1), (2, iV p2), (3, iV p3), (4, iV p4), (6, iV l6_10), (7, iV l7_11)] dX11_find_95 (show 5 < 8 by decide) rfl ?_
      refine x_goto (tgt := 3) dX11_find_98 (by decide) ?_
      exact x_sub [1, 2, 3, 4, 5, 0] rfl (hJ3 _ _ h)
    · have h := h.2 k18
      refine x_iload 5 rfl dX11_find_92 ?_
      obtain ⟨c19, h⟩ := h
      exact x_iret h c19 rfl dX11_find_94
  · have h := h.2 k16
    refine x_iload 6 rfl dX11_find_44 ?_
    obtain ⟨c20, h⟩ := h
    refine x_ifeq (tgt := 87) c20  dX11_find_46 (by decide) (fun k21 => ?_) (fun k21 => ?_)
    · have h := h.1 k21
      refine x_iload 6 rfl dX11_find_87 ?_
      refine x_ifeq (tgt := 95) c20  dX11_find_89 (by decide) (fun k22 => ?_) (fun k22 => ?_)
      · have h := h.1 k22
        refine x_iinc 5 rfl [(5, iV (b5 + 1)), (0, .ref (x.2.2.1 + 260)), (1, iV p1), (2, iV p2), (3, iV p3), (4, iV p4), (6, iV l6_10), (7, iV l7_11)] dX11_find_95 (show 5 < 8 by decide) rfl ?_
        refine x_goto (tgt := 3) dX11_find_98 (by decide) ?_
        exact x_sub [1, 2, 3, 4, 5, 0] rfl (hJ3 _ _ h)
      · have h := h.2 k22
        refine x_iload 5 rfl dX11_find_92 ?_
        obtain ⟨c23, h⟩ := h
        exact x_iret h c23 rfl dX11_find_94
    · have h := h.2 k21
      refine x_aload_n 0 rfl dX11_find_49 ?_
      refine x_getR (j := 16) (r := 264) ly260 (by decide) rfl rfl (by decide) inT11 fl_X11_23 dX11_find_50 ?_
      refine x_iload_n 3 rfl dX11_find_53 ?_
      refine x_iload 4 rfl dX11_find_54 ?_
      refine x_iload 5 rfl dX11_find_56 ?_
      refine x_imul dX11_find_58 ?_
      refine x_iadd dX11_find_59 ?_
      refine x_iload 7 rfl dX11_find_60 ?_
      refine x_iadd dX11_find_62 ?_
      obtain ⟨c24, h⟩ := h
      refine x_iald ly264 c24.1 c24.2 (xIb (n := 322) c24 (by decide)) (by decide) dX11_find_63 (fun r25 => ?_)
      refine x_aload_n 0 rfl dX11_find_64 ?_
      refine x_getR (j := 12) (r := 262) ly260 (by decide) rfl rfl (by decide) inT11 fl_X11_17 dX11_find_65 ?_
      refine x_iload 7 rfl dX11_find_68 ?_
      obtain ⟨c26, h⟩ := h
      refine x_iald ly262 c26.1 c26.2 (xIb (n := 8) c26 (by decide)) (by decide) dX11_find_70 (fun r27 => ?_)
      refine x_icmpne (tgt := 78) r25 r27 dX11_find_71 (by decide) (fun k28 => ?_) (fun k28 => ?_)
      · have h := h.1 k28
        refine x_iconst dX11_find_78 ?_
        refine x_istore [(6, iV 0), (0, .ref (x.2.2.1 + 260)), (1, iV p1), (2, iV p2), (3, iV p3), (4, iV p4), (5, iV b5), (7, iV l7_11)] dX11_find_79 (show 6 < 8 by decide) rfl ?_
        refine x_iinc 7 rfl [(7, iV (l7_11 + 1)), (6, iV 0), (0, .ref (x.2.2.1 + 260)), (1, iV p1), (2, iV p2), (3, iV p3), (4, iV p4), (5, iV b5)] dX11_find_81 (show 7 < 8 by decide) rfl ?_
        refine x_goto (tgt := 35) dX11_find_84 (by decide) ?_
        exact x_sub [2, 3, 4, 5, 6, 7, 1, 0] rfl (hJ35 _ _ _ h)
      · have h := h.2 k28
        refine x_iconst dX11_find_74 ?_
        refine x_goto (tgt := 79) dX11_find_75 (by decide) ?_
        refine x_istore [(6, iV 1), (0, .ref (x.2.2.1 + 260)), (1, iV p1), (2, iV p2), (3, iV p3), (4, iV p4), (5, iV b5), (7, iV l7_11)] dX11_find_79 (show 6 < 8 by decide) rfl ?_
        refine x_iinc 7 rfl [(7, iV (l7_11 + 1)), (6, iV 1), (0, .ref (x.2.2.1 + 260)), (1, iV p1), (2, iV p2), (3, iV p3), (4, iV p4), (5, iV b5)] dX11_find_81 (show 7 < 8 by decide) rfl ?_
        refine x_goto (tgt := 35) dX11_find_84 (by decide) ?_
        exact x_sub [2, 3, 4, 5, 6, 7, 1, 0] rfl (hJ35 _ _ _ h)
set_option maxRecDepth 100000 in
set_option maxHeartbeats 4000000 in
theorem xX11_find (x : xX) (p1 : Int) (p2 : Int) (p3 : Int) (p4 : Int) (μ : xM) (Q : Int → xM → Prop) (hp1 : xIn p1) (hp2 : xIn p2) (hp3 : xIn p3) (hp4 : xIn p4) (h : tX11_find p1 p2 p3 p4 μ Q) : xMet x 1 yX11_find cX11_find 8 (some .int) [.ref (x.2.2.1 + 260), iV p1, iV p2, iV p3, iV p4] μ (xQi x Q) := by
  refine xMet_of (by decide +kernel) (Nat.le_of_ble_eq_true rfl) ?_
  show xW x (xRm 1, RX11, cX11_find, 8, (some .int), fun _ _ => True) (xQi x Q) 0 [(0, .ref (x.2.2.1 + 260)), (1, iV p1), (2, iV p2), (3, iV p3), (4, iV p4)] [] μ
  refine x_ran (fun n0 => ?_)
  have h := h n0 hp1 hp2 hp3 hp4
  refine x_iconst dX11_find_0 ?_
  refine x_istore [(5, iV 0), (0, .ref (x.2.2.1 + 260)), (1, iV p1), (2, iV p2), (3, iV p3), (4, iV p4)] dX11_find_1 (show 5 < 8 by decide) rfl ?_
  refine x_sub [1, 2, 3, 4, 5, 0] rfl ?_
  refine x_loop1 (fun l5_1 => [(0, .ref (x.2.2.1 + 260)), (1, iV p1), (2, iV p2), (3, iV p3), (4, iV p4), (5, iV l5_1)]) h (fun J3 l5_1 μ2 hJ3 h n3 => ?_)
  refine x_iload 5 rfl dX11_find_3 ?_
  refine x_iload_n 1 rfl dX11_find_5 ?_
  obtain ⟨c4, h⟩ := h
  refine x_icmpge (tgt := 101) c4 hp1 dX11_find_6 (by decide) (fun k5 => ?_) (fun k5 => ?_)
  · have h := h.1 k5
    refine x_iconst dX11_find_101 ?_
    exact x_iret h ⟨by decide, by decide⟩ rfl dX11_find_102
  · have h := h.2 k5
    refine x_aload_n 0 rfl dX11_find_9 ?_
    refine x_getR (j := 16) (r := 264) ly260 (by decide) rfl rfl (by decide) inT11 fl_X11_23 dX11_find_10 ?_
    refine x_iload_n 2 rfl dX11_find_13 ?_
    refine x_iload 5 rfl dX11_find_14 ?_
    refine x_iadd dX11_find_16 ?_
    obtain ⟨c6, h⟩ := h
    refine x_iald ly264 c6.1 c6.2 (xIb (n := 322) c6 (by decide)) (by decide) dX11_find_17 (fun r7 => ?_)
    refine x_aload_n 0 rfl dX11_find_18 ?_
    refine x_getI (j := 8) ly260 (by decide) rfl rfl (by decide) inT11 fl_X11_96 dX11_find_19 (fun r8 => ?_)
    refine x_icmpne (tgt := 29) r7 r8 dX11_find_22 (by decide) (fun k9 => ?_) (fun k9 => ?_)
    · have h := h.1 k9
      refine x_iconst dX11_find_29 ?_
      exact x_sub [0, 1, 2, 3, 4, 5] rfl (xX11_find_b30 x p1 p2 p3 p4 l5_1 0 μ2 Q J3 hp1 hp2 hp3 hp4 hJ3 h)
    · have h := h.2 k9
      refine x_iconst dX11_find_25 ?_
      refine x_goto (tgt := 30) dX11_find_26 (by decide) ?_
      exact x_sub [0, 1, 2, 3, 4, 5] rfl (xX11_find_b30 x p1 p2 p3 p4 l5_1 1 μ2 Q J3 hp1 hp2 hp3 hp4 hJ3 h)
set_option maxRecDepth 100000 in
set_option maxHeartbeats 4000000 in
theorem xX11_begins (x : xX) (p1 : Nat) (p2 : Int) (p3 : Int) (μ : xM) (Q : Int → xM → Prop) (hp1 : p1 < 13) (hp2 : p2 = 0 ∨ p2 = 1) (hp3 : xIn p3) (h : tX11_begins p1 p2 p3 μ Q) : xMet x 6 yX11_begins cX11_begins 4 (some .boolean) [.ref (x.2.2.1 + 260), .ref (x.2.2.2.1 p1), iV p2, iV p3] μ (xQz x Q) := by
  refine xMet_of (by decide +kernel) (Nat.le_of_ble_eq_true rfl) ?_
  show xW x (xRm 6, RX11, cX11_begins, 4, (some .boolean), fun _ _ => True) (xQz x Q) 0 [(0, .ref (x.2.2.1 + 260)), (1, .ref (x.2.2.2.1 p1)), (2, iV p2), (3, iV p3)] [] μ
  refine x_ran (fun n0 => ?_)
  have h := h n0 hp2 hp3
  refine x_aload_n 0 rfl dX11_begins_0 ?_
  refine x_aload_n 1 rfl dX11_begins_1 ?_
  refine x_callVz (As := [.ref (x.2.2.2.1 p1)]) (rest := []) cal_X11_isWord ins_X11_isWord sel_X11_isWord ly260 (by decide) rfl (xX11_isWord x p1 _ _ hp1 h) rfl ml_X11_129 (xRoom (Nat.le_of_ble_eq_true rfl)) (Nat.le_of_ble_eq_true rfl) dX11_begins_2 (fun r3 μ1 i4 n2 h => ?_)
  have h := h i4 n2
  refine x_ifne (tgt := 10) (xIz i4)  dX11_begins_5 (by decide) (fun k5 => ?_) (fun k5 => ?_)
  · have h := h.1 (xz1 i4 k5)
    refine x_iload_n 2 rfl dX11_begins_10 ?_
    refine x_ifne (tgt := 23) (xIz hp2)  dX11_begins_11 (by decide) (fun k6 => ?_) (fun k6 => ?_)
    · have h := h.1 (xz1 hp2 k6)
      refine x_aload_n 0 rfl dX11_begins_23 ?_
      refine x_getI (j := 13) ly260 (by decide) rfl rfl (by decide) inT11 fl_X11_112 dX11_begins_24 (fun r7 => ?_)
      refine x_ifne (tgt := 34) r7  dX11_begins_27 (by decide) (fun k8 => ?_) (fun k8 => ?_)
      · have h := h.1 k8
        refine x_iconst dX11_begins_34 ?_
        exact x_zret h (Or.inr rfl) rfl dX11_begins_35
      · have h := h.2 k8
        refine x_aload_n 0 rfl dX11_begins_30 ?_
        refine x_callVv (As := []) (rest := []) cal_X11_next ins_X11_next sel_X11_next ly260 (by decide) rfl (xX11_next x  _ _  h) rfl ml_X11_133 (xRoom (Nat.le_of_ble_eq_true rfl)) (Nat.le_of_ble_eq_true rfl) dX11_begins_31 (fun μ9 n10 h => ?_)
        have h := h n10
        refine x_iconst dX11_begins_34 ?_
        exact x_zret h (Or.inr rfl) rfl dX11_begins_35
    · have h := h.2 k6
      refine x_aload_n 0 rfl dX11_begins_14 ?_
      refine x_iload_n 3 rfl dX11_begins_15 ?_
      refine x_aload_n 0 rfl dX11_begins_16 ?_
      refine x_getI (j := 4) ly260 (by decide) rfl rfl (by decide) inT11 fl_X11_93 dX11_begins_17 (fun r11 => ?_)
      refine x_callVv (As := [iV p3, iV (μ1 260 4)]) (rest := []) cal_X11_wrong ins_X11_wrong sel_X11_wrong ly260 (by decide) rfl (xX11_wrong x p3 (μ1 260 4) _ _ hp3 r11 h) rfl ml_X11_139 (xRoom (Nat.le_of_ble_eq_true rfl)) (Nat.le_of_ble_eq_true rfl) dX11_begins_20 (fun μ12 n13 h => ?_)
      have h := h n13
      refine x_aload_n 0 rfl dX11_begins_23 ?_
      refine x_getI (j := 13) ly260 (by decide) rfl rfl (by decide) inT11 fl_X11_112 dX11_begins_24 (fun r14 => ?_)
      refine x_ifne (tgt := 34) r14  dX11_begins_27 (by decide) (fun k15 => ?_) (fun k15 => ?_)
      · have h := h.1 k15
        refine x_iconst dX11_begins_34 ?_
        exact x_zret h (Or.inr rfl) rfl dX11_begins_35
      · have h := h.2 k15
        refine x_aload_n 0 rfl dX11_begins_30 ?_
        refine x_callVv (As := []) (rest := []) cal_X11_next ins_X11_next sel_X11_next ly260 (by decide) rfl (xX11_next x  _ _  h) rfl ml_X11_133 (xRoom (Nat.le_of_ble_eq_true rfl)) (Nat.le_of_ble_eq_true rfl) dX11_begins_31 (fun μ16 n17 h => ?_)
        have h := h n17
        refine x_iconst dX11_begins_34 ?_
        exact x_zret h (Or.inr rfl) rfl dX11_begins_35
  · have h := h.2 k5
    refine x_iconst dX11_begins_8 ?_
    exact x_zret h (Or.inl rfl) rfl dX11_begins_9
set_option maxRecDepth 100000 in
set_option maxHeartbeats 4000000 in
theorem xX11_innLine_b92 (x : xX)  (b1 : Int) (b2 : Int) (μ : xM) (Q : xM → Prop)    (h : tX11_innLine_b92  b1 b2 μ Q ) : xW x (xRm 9, RX11, cX11_innLine, 3, none, fun _ _ => True) (xQv x Q) 92 [(0, .ref (x.2.2.1 + 260)), (1, iV b1), (2, iV b2)] [] μ := by
  refine x_ran (fun n0 => ?_)
  have h := h n0
  refine x_aload_n 0 rfl dX11_innLine_92 ?_
  refine x_getI (j := 13) ly260 (by decide) rfl rfl (by decide) inT11 fl_X11_112 dX11_innLine_93 (fun r33 => ?_)
  refine x_ifeq (tgt := 100) r33  dX11_innLine_96 (by decide) (fun k34 => ?_) (fun k34 => ?_)
  · have h := h.1 k34
    refine x_aload_n 0 rfl dX11_innLine_100 ?_
    refine x_callVv (As := []) (rest := []) cal_X11_next ins_X11_next sel_X11_next ly260 (by decide) rfl (xX11_next x  _ _  h) rfl ml_X11_133 (xRoom (Nat.le_of_ble_eq_true rfl)) (Nat.le_of_ble_eq_true rfl) dX11_innLine_101 (fun μ35 n36 h => ?_)
    have h := h n36
    refine x_aload_n 0 rfl dX11_innLine_104 ?_
    refine x_getR (j := 16) (r := 264) ly260 (by decide) rfl rfl (by decide) inT11 fl_X11_23 dX11_innLine_105 ?_
    refine x_iconst dX11_innLine_108 ?_
    refine x_iload_n 2 rfl dX11_innLine_109 ?_
    obtain ⟨c37, h⟩ := h
    refine x_iast ly264 (by decide) (by decide) ⟨by decide, by decide⟩ c37 (by decide) dX11_innLine_110 (fun μ38 e40 n39 => ?_)
    have h := h μ38 e40 n39
    refine x_aload_n 0 rfl dX11_innLine_111 ?_
    refine x_getR (j := 16) (r := 264) ly260 (by decide) rfl rfl (by decide) inT11 fl_X11_23 dX11_innLine_112 ?_
    refine x_iconst dX11_innLine_115 ?_
    refine x_iload_n 1 rfl dX11_innLine_116 ?_
    obtain ⟨c41, h⟩ := h
    refine x_iast ly264 (by decide) (by decide) ⟨by decide, by decide⟩ c41 (by decide) dX11_innLine_117 (fun μ42 e44 n43 => ?_)
    have h := h μ42 e44 n43
    exact x_vret h rfl dX11_innLine_118
  · have h := h.2 k34
    exact x_vret h rfl dX11_innLine_99
set_option maxRecDepth 100000 in
set_option maxHeartbeats 4000000 in
theorem xX11_innLine_b78 (x : xX)  (b1 : Int) (s0 : Int) (μ : xM) (Q : xM → Prop)    (h : tX11_innLine_b78  b1 s0 μ Q ) : xW x (xRm 9, RX11, cX11_innLine, 3, none, fun _ _ => True) (xQv x Q) 78 [(0, .ref (x.2.2.1 + 260)), (1, iV b1)] [iV s0] μ := by
  refine x_ran (fun n0 => ?_)
  have h := h n0
  refine x_istore_n [(2, iV s0), (0, .ref (x.2.2.1 + 260)), (1, iV b1)] dX11_innLine_78 (show 2 < 3 by decide) rfl ?_
  refine x_iload_n 0 rfl dX11_innLine_79 ?_
  obtain ⟨c31, h⟩ := h
  refine x_ifge (tgt := 92) c31  dX11_innLine_80 (by decide) (fun k32 => ?_) (fun k32 => ?_)
  · have h := h.1 k32
    exact x_sub [1, 2, 0] rfl (xX11_innLine_b92 x b1 s0 μ Q   h)
  · have h := h.2 k32
    refine x_aload_n 1 rfl dX11_innLine_83 ?_
    refine x_iconst dX11_innLine_84 ?_
    refine x_aload_n 1 rfl dX11_innLine_85 ?_
    refine x_getI (j := 4) ly260 (by decide) rfl rfl (by decide) inT11 fl_X11_93 dX11_innLine_86 (fun r45 => ?_)
    refine x_callVv (As := [iV 1, iV (μ 260 4)]) (rest := []) cal_X11_wrong ins_X11_wrong sel_X11_wrong ly260 (by decide) rfl (xX11_wrong x 1 (μ 260 4) _ _ ⟨by decide, by decide⟩ r45 h) rfl ml_X11_139 (xRoom (Nat.le_of_ble_eq_true rfl)) (Nat.le_of_ble_eq_true rfl) dX11_innLine_89 (fun μ46 n47 h => ?_)
    have h := h n47
    exact x_sub [1, 2, 0] rfl (xX11_innLine_b92 x b1 s0 μ46 Q   h)
set_option maxRecDepth 100000 in
set_option maxHeartbeats 4000000 in
theorem xX11_innLine (x : xX)  (μ : xM) (Q : xM → Prop)  (h : tX11_innLine  μ Q) : xMet x 9 yX11_innLine cX11_innLine 3 none [.ref (x.2.2.1 + 260)] μ (xQv x Q) := by
  refine xMet_of (by decide +kernel) (Nat.le_of_ble_eq_true rfl) ?_
  show xW x (xRm 9, RX11, cX11_innLine, 3, none, fun _ _ => True) (xQv x Q) 0 [(0, .ref (x.2.2.1 + 260))] [] μ
  refine x_ran (fun n0 => ?_)
  have h := h n0 
  refine x_aload_n 0 rfl dX11_innLine_0 ?_
  refine x_getI (j := 13) ly260 (by decide) rfl rfl (by decide) inT11 fl_X11_112 dX11_innLine_1 (fun r1 => ?_)
  refine x_ifeq (tgt := 8) r1  dX11_innLine_4 (by decide) (fun k2 => ?_) (fun k2 => ?_)
  · have h := h.1 k2
    refine x_aload_n 0 rfl dX11_innLine_8 ?_
    refine x_ldcS 14 (i := 1) rfl dX11_innLine_9 ?_
    refine x_iconst dX11_innLine_11 ?_
    refine x_iconst dX11_innLine_12 ?_
    refine x_callVi (As := [.ref (x.2.2.2.1 1), iV 1, iV 3]) (rest := []) cal_X11_told ins_X11_told sel_X11_told ly260 (by decide) rfl (xX11_told x 1 1 3 _ _ (by decide) ⟨by decide, by decide⟩ ⟨by decide, by decide⟩ h) rfl ml_X11_208 (xRoom (Nat.le_of_ble_eq_true rfl)) (Nat.le_of_ble_eq_true rfl) dX11_innLine_13 (fun r5 μ3 i6 n4 h => ?_)
    have h := h i6 n4
    refine x_istore_n [(1, iV r5), (0, .ref (x.2.2.1 + 260))] dX11_innLine_16 (show 1 < 3 by decide) rfl ?_
    refine x_aload_n 1 rfl dX11_innLine_17 ?_
    refine x_getR (j := 16) (r := 264) ly260 (by decide) rfl rfl (by decide) inT11 fl_X11_23 dX11_innLine_18 ?_
    refine x_iconst dX11_innLine_21 ?_
    refine x_aload_n 1 rfl dX11_innLine_22 ?_
    refine x_ldcS 15 (i := 2) rfl dX11_innLine_23 ?_
    refine x_iconst dX11_innLine_25 ?_
    refine x_bipush dX11_innLine_26 (by decide) ?_
    refine x_callVi (As := [.ref (x.2.2.2.1 2), iV 1, iV 6]) (rest := [iV 1, .ref (x.2.2.1 + 264)]) cal_X11_told ins_X11_told sel_X11_told ly260 (by decide) rfl (xX11_told x 2 1 6 _ _ (by decide) ⟨by decide, by decide⟩ ⟨by decide, by decide⟩ h) rfl ml_X11_208 (xRoom (Nat.le_of_ble_eq_true rfl)) (Nat.le_of_ble_eq_true rfl) dX11_innLine_28 (fun r9 μ7 i10 n8 h => ?_)
    have h := h i10 n8
    refine x_iast ly264 (by decide) (by decide) ⟨by decide, by decide⟩ i10 (by decide) dX11_innLine_31 (fun μ11 e13 n12 => ?_)
    have h := h μ11 e13 n12
    refine x_aload_n 1 rfl dX11_innLine_32 ?_
    refine x_ldcS 16 (i := 3) rfl dX11_innLine_33 ?_
    refine x_callVv (As := [.ref (x.2.2.2.1 3)]) (rest := []) cal_X11_must ins_X11_must sel_X11_must ly260 (by decide) rfl (xX11_must x 3 _ _ (by decide) h) rfl ml_X11_147 (xRoom (Nat.le_of_ble_eq_true rfl)) (Nat.le_of_ble_eq_true rfl) dX11_innLine_35 (fun μ14 n15 h => ?_)
    have h := h n15
    refine x_aload_n 1 rfl dX11_innLine_38 ?_
    refine x_ldcS 17 (i := 4) rfl dX11_innLine_39 ?_
    refine x_callVz (As := [.ref (x.2.2.2.1 4)]) (rest := []) cal_X11_isWord ins_X11_isWord sel_X11_isWord ly260 (by decide) rfl (xX11_isWord x 4 _ _ (by decide) h) rfl ml_X11_129 (xRoom (Nat.le_of_ble_eq_true rfl)) (Nat.le_of_ble_eq_true rfl) dX11_innLine_41 (fun r18 μ16 i19 n17 h => ?_)
    have h := h i19 n17
    refine x_ifeq (tgt := 51) (xIz i19)  dX11_innLine_44 (by decide) (fun k20 => ?_) (fun k20 => ?_)
    · have h := h.1 k20
      refine x_aload_n 1 rfl dX11_innLine_51 ?_
      refine x_ldcS 18 (i := 5) rfl dX11_innLine_52 ?_
      refine x_callVz (As := [.ref (x.2.2.2.1 5)]) (rest := []) cal_X11_isWord ins_X11_isWord sel_X11_isWord ly260 (by decide) rfl (xX11_isWord x 5 _ _ (by decide) h) rfl ml_X11_129 (xRoom (Nat.le_of_ble_eq_true rfl)) (Nat.le_of_ble_eq_true rfl) dX11_innLine_54 (fun r23 μ21 i24 n22 h => ?_)
      have h := h i24 n22
      refine x_ifeq (tgt := 64) (xIz i24)  dX11_innLine_57 (by decide) (fun k25 => ?_) (fun k25 => ?_)
      · have h := h.1 k25
        refine x_aload_n 1 rfl dX11_innLine_64 ?_
        refine x_ldcS 19 (i := 6) rfl dX11_innLine_65 ?_
        refine x_callVz (As := [.ref (x.2.2.2.1 6)]) (rest := []) cal_X11_isWord ins_X11_isWord sel_X11_isWord ly260 (by decide) rfl (xX11_isWord x 6 _ _ (by decide) h) rfl ml_X11_129 (xRoom (Nat.le_of_ble_eq_true rfl)) (Nat.le_of_ble_eq_true rfl) dX11_innLine_67 (fun r28 μ26 i29 n27 h => ?_)
        have h := h i29 n27
        refine x_ifeq (tgt := 77) (xIz i29)  dX11_innLine_70 (by decide) (fun k30 => ?_) (fun k30 => ?_)
        · have h := h.1 k30
          refine x_iconst dX11_innLine_77 ?_
          exact x_sub [1, 0] rfl (xX11_innLine_b78 x r5 (-1) μ26 Q   h)
        · have h := h.2 (xz1 i29 k30)
          refine x_iconst dX11_innLine_73 ?_
          refine x_goto (tgt := 78) dX11_innLine_74 (by decide) ?_
          exact x_sub [1, 0] rfl (xX11_innLine_b78 x r5 2 μ26 Q   h)
      · have h := h.2 (xz1 i24 k25)
        refine x_iconst dX11_innLine_60 ?_
        refine x_goto (tgt := 78) dX11_innLine_61 (by decide) ?_
        exact x_sub [1, 0] rfl (xX11_innLine_b78 x r5 1 μ21 Q   h)
    · have h := h.2 (xz1 i19 k20)
      refine x_iconst dX11_innLine_47 ?_
      refine x_goto (tgt := 78) dX11_innLine_48 (by decide) ?_
      exact x_sub [1, 0] rfl (xX11_innLine_b78 x r5 0 μ16 Q   h)
  · have h := h.2 k2
    exact x_vret h rfl dX11_innLine_7
set_option maxRecDepth 100000 in
set_option maxHeartbeats 4000000 in
theorem xX11_wordLine_b74 (x : xX)  (b1 : Int) (μ : xM) (Q : xM → Prop)    (h : tX11_wordLine_b74  b1 μ Q ) : xW x (xRm 9, RX11, cX11_wordLine, 3, none, fun _ _ => True) (xQv x Q) 74 [(0, .ref (x.2.2.1 + 260)), (1, iV b1)] [] μ := by
  refine x_ran (fun n0 => ?_)
  have h := h n0
  refine x_aload_n 0 rfl dX11_wordLine_74 ?_
  refine x_getI (j := 13) ly260 (by decide) rfl rfl (by decide) inT11 fl_X11_112 dX11_wordLine_75 (fun r10 => ?_)
  refine x_ifeq (tgt := 82) r10  dX11_wordLine_78 (by decide) (fun k11 => ?_) (fun k11 => ?_)
  · have h := h.1 k11
    refine x_iconst dX11_wordLine_82 ?_
    refine x_istore_n [(2, iV 0), (0, .ref (x.2.2.1 + 260)), (1, iV b1)] dX11_wordLine_83 (show 2 < 3 by decide) rfl ?_
    refine x_sub [1, 2, 0] rfl ?_
    refine x_loop1 (fun l2_12 => [(0, .ref (x.2.2.1 + 260)), (1, iV b1), (2, iV l2_12)]) h (fun J84 l2_12 μ13 hJ84 h n14 => ?_)
    refine x_iload_n 2 rfl dX11_wordLine_84 ?_
    refine x_aload_n 0 rfl dX11_wordLine_85 ?_
    refine x_getI (j := 8) ly260 (by decide) rfl rfl (by decide) inT11 fl_X11_96 dX11_wordLine_86 (fun r15 => ?_)
    obtain ⟨c16, h⟩ := h
    refine x_icmpge (tgt := 118) c16 r15 dX11_wordLine_89 (by decide) (fun k17 => ?_) (fun k17 => ?_)
    · have h := h.1 k17
      refine x_aload_n 0 rfl dX11_wordLine_118 ?_
      refine x_getR (j := 16) (r := 264) ly260 (by decide) rfl rfl (by decide) inT11 fl_X11_23 dX11_wordLine_119 ?_
      refine x_bipush dX11_wordLine_122 (by decide) ?_
      refine x_iload_n 1 rfl dX11_wordLine_124 ?_
      refine x_iadd dX11_wordLine_125 ?_
      refine x_aload_n 0 rfl dX11_wordLine_126 ?_
      refine x_getI (j := 8) ly260 (by decide) rfl rfl (by decide) inT11 fl_X11_96 dX11_wordLine_127 (fun r18 => ?_)
      obtain ⟨c19, h⟩ := h
      refine x_iast ly264 c19.1 c19.2 (xIb (n := 322) c19 (by decide)) r18 (by decide) dX11_wordLine_130 (fun μ20 e22 n21 => ?_)
      have h := h μ20 e22 n21
      refine x_aload_n 0 rfl dX11_wordLine_131 ?_
      refine x_callVv (As := []) (rest := []) cal_X11_next ins_X11_next sel_X11_next ly260 (by decide) rfl (xX11_next x  _ _  h) rfl ml_X11_133 (xRoom (Nat.le_of_ble_eq_true rfl)) (Nat.le_of_ble_eq_true rfl) dX11_wordLine_132 (fun μ23 n24 h => ?_)
      have h := h n24
      refine x_aload_n 0 rfl dX11_wordLine_135 ?_
      refine x_getR (j := 16) (r := 264) ly260 (by decide) rfl rfl (by decide) inT11 fl_X11_23 dX11_wordLine_136 ?_
      refine x_sipush dX11_wordLine_139 (by decide) ?_
      refine x_iload_n 1 rfl dX11_wordLine_142 ?_
      refine x_iadd dX11_wordLine_143 ?_
      refine x_aload_n 0 rfl dX11_wordLine_144 ?_
      refine x_ldcS 21 (i := 8) rfl dX11_wordLine_145 ?_
      refine x_iconst dX11_wordLine_147 ?_
      refine x_bipush dX11_wordLine_148 (by decide) ?_
      refine x_callVi (As := [.ref (x.2.2.2.1 8), iV 0, iV 99]) (rest := [iV (175 + b1), .ref (x.2.2.1 + 264)]) cal_X11_told ins_X11_told sel_X11_told ly260 (by decide) rfl (xX11_told x 8 0 99 _ _ (by decide) ⟨by decide, by decide⟩ ⟨by decide, by decide⟩ h) rfl ml_X11_208 (xRoom (Nat.le_of_ble_eq_true rfl)) (Nat.le_of_ble_eq_true rfl) dX11_wordLine_150 (fun r27 μ25 i28 n26 h => ?_)
      have h := h i28 n26
      obtain ⟨c29, h⟩ := h
      refine x_iast ly264 c29.1 c29.2 (xIb (n := 322) c29 (by decide)) i28 (by decide) dX11_wordLine_153 (fun μ30 e32 n31 => ?_)
      have h := h μ30 e32 n31
      refine x_aload_n 0 rfl dX11_wordLine_154 ?_
      refine x_ldcS 22 (i := 9) rfl dX11_wordLine_155 ?_
      refine x_callVz (As := [.ref (x.2.2.2.1 9)]) (rest := []) cal_X11_takes ins_X11_takes sel_X11_takes ly260 (by decide) rfl (xX11_takes x 9 _ _ (by decide) h) rfl ml_X11_136 (xRoom (Nat.le_of_ble_eq_true rfl)) (Nat.le_of_ble_eq_true rfl) dX11_wordLine_157 (fun r35 μ33 i36 n34 h => ?_)
      have h := h i36 n34
      refine x_ifeq (tgt := 174) (xIz i36)  dX11_wordLine_160 (by decide) (fun k37 => ?_) (fun k37 => ?_)
      · have h := h.1 k37
        refine x_aload_n 0 rfl dX11_wordLine_174 ?_
        refine x_getI (j := 13) ly260 (by decide) rfl rfl (by decide) inT11 fl_X11_112 dX11_wordLine_175 (fun r38 => ?_)
        refine x_ifne (tgt := 191) r38  dX11_wordLine_178 (by decide) (fun k39 => ?_) (fun k39 => ?_)
        · have h := h.1 k39
          exact x_vret h rfl dX11_wordLine_191
        · have h := h.2 k39
          refine x_aload_n 0 rfl dX11_wordLine_181 ?_
          refine x_getR (j := 16) (r := 264) ly260 (by decide) rfl rfl (by decide) inT11 fl_X11_23 dX11_wordLine_182 ?_
          refine x_iconst dX11_wordLine_185 ?_
          refine x_dup2 rfl rfl dX11_wordLine_186 ?_
          refine x_iald ly264 (by decide) (by decide) ⟨by decide, by decide⟩ (by decide) dX11_wordLine_187 (fun r40 => ?_)
          refine x_iconst dX11_wordLine_188 ?_
          refine x_iadd dX11_wordLine_189 ?_
          obtain ⟨c41, h⟩ := h
          refine x_iast ly264 (by decide) (by decide) ⟨by decide, by decide⟩ c41 (by decide) dX11_wordLine_190 (fun μ42 e44 n43 => ?_)
          have h := h μ42 e44 n43
          exact x_vret h rfl dX11_wordLine_191
      · have h := h.2 (xz1 i36 k37)
        refine x_aload_n 0 rfl dX11_wordLine_163 ?_
        refine x_getR (j := 16) (r := 264) ly260 (by decide) rfl rfl (by decide) inT11 fl_X11_23 dX11_wordLine_164 ?_
        refine x_sipush dX11_wordLine_167 (by decide) ?_
        refine x_iload_n 1 rfl dX11_wordLine_170 ?_
        refine x_iadd dX11_wordLine_171 ?_
        refine x_iconst dX11_wordLine_172 ?_
        obtain ⟨c45, h⟩ := h
        refine x_iast ly264 c45.1 c45.2 (xIb (n := 322) c45 (by decide)) ⟨by decide, by decide⟩ (by decide) dX11_wordLine_173 (fun μ46 e48 n47 => ?_)
        have h := h μ46 e48 n47
        refine x_aload_n 0 rfl dX11_wordLine_174 ?_
        refine x_getI (j := 13) ly260 (by decide) rfl rfl (by decide) inT11 fl_X11_112 dX11_wordLine_175 (fun r49 => ?_)
        refine x_ifne (tgt := 191) r49  dX11_wordLine_178 (by decide) (fun k50 => ?_) (fun k50 => ?_)
        · have h := h.1 k50
          exact x_vret h rfl dX11_wordLine_191
        · have h := h.2 k50
          refine x_aload_n 0 rfl dX11_wordLine_181 ?_
          refine x_getR (j := 16) (r := 264) ly260 (by decide) rfl rfl (by decide) inT11 fl_X11_23 dX11_wordLine_182 ?_
          refine x_iconst dX11_wordLine_185 ?_
          refine x_dup2 rfl rfl dX11_wordLine_186 ?_
          refine x_iald ly264 (by decide) (by decide) ⟨by decide, by decide⟩ (by decide) dX11_wordLine_187 (fun r51 => ?_)
          refine x_iconst dX11_wordLine_188 ?_
          refine x_iadd dX11_wordLine_189 ?_
          obtain ⟨c52, h⟩ := h
          refine x_iast ly264 (by decide) (by decide) ⟨by decide, by decide⟩ c52 (by decide) dX11_wordLine_190 (fun μ53 e55 n54 => ?_)
          have h := h μ53 e55 n54
          exact x_vret h rfl dX11_wordLine_191
    · have h := h.2 k17
      refine x_aload_n 0 rfl dX11_wordLine_92 ?_
      refine x_getR (j := 16) (r := 264) ly260 (by decide) rfl rfl (by decide) inT11 fl_X11_23 dX11_wordLine_93 ?_
      refine x_bipush dX11_wordLine_96 (by decide) ?_
      refine x_bipush dX11_wordLine_98 (by decide) ?_
      refine x_iload_n 1 rfl dX11_wordLine_100 ?_
      refine x_imul dX11_wordLine_101 ?_
      refine x_iadd dX11_wordLine_102 ?_
      refine x_iload_n 2 rfl dX11_wordLine_103 ?_
      refine x_iadd dX11_wordLine_104 ?_
      refine x_aload_n 0 rfl dX11_wordLine_105 ?_
      refine x_getR (j := 12) (r := 262) ly260 (by decide) rfl rfl (by decide) inT11 fl_X11_17 dX11_wordLine_106 ?_
      refine x_iload_n 2 rfl dX11_wordLine_109 ?_
      obtain ⟨c56, h⟩ := h
      refine x_iald ly262 c56.1 c56.2 (xIb (n := 8) c56 (by decide)) (by decide) dX11_wordLine_110 (fun r57 => ?_)
      obtain ⟨c58, h⟩ := h
      refine x_iast ly264 c58.1 c58.2 (xIb (n := 322) c58 (by decide)) r57 (by decide) dX11_wordLine_111 (fun μ59 e61 n60 => ?_)
      have h := h μ59 e61 n60
      refine x_iinc 2 rfl [(2, iV (l2_12 + 1)), (0, .ref (x.2.2.1 + 260)), (1, iV b1)] dX11_wordLine_112 (show 2 < 3 by decide) rfl ?_
      refine x_goto (tgt := 84) dX11_wordLine_115 (by decide) ?_
      exact x_sub [1, 2, 0] rfl (hJ84 _ _ h)
  · have h := h.2 k11
    exact x_vret h rfl dX11_wordLine_81
set_option maxRecDepth 100000 in
set_option maxHeartbeats 4000000 in
theorem xX11_wordLine_b49 (x : xX)  (b1 : Int) (μ : xM) (Q : xM → Prop)    (h : tX11_wordLine_b49  b1 μ Q ) : xW x (xRm 9, RX11, cX11_wordLine, 3, none, fun _ _ => True) (xQv x Q) 49 [(0, .ref (x.2.2.1 + 260)), (1, iV b1)] [] μ := by
  refine x_ran (fun n0 => ?_)
  have h := h n0
  refine x_aload_n 0 rfl dX11_wordLine_49 ?_
  refine x_getI (j := 13) ly260 (by decide) rfl rfl (by decide) inT11 fl_X11_112 dX11_wordLine_50 (fun r8 => ?_)
  refine x_ifne (tgt := 74) r8  dX11_wordLine_53 (by decide) (fun k9 => ?_) (fun k9 => ?_)
  · have h := h.1 k9
    exact x_sub [0, 1] rfl (xX11_wordLine_b74 x b1 μ Q   h)
  · have h := h.2 k9
    refine x_aload_n 0 rfl dX11_wordLine_56 ?_
    refine x_getI (j := 8) ly260 (by decide) rfl rfl (by decide) inT11 fl_X11_96 dX11_wordLine_57 (fun r62 => ?_)
    refine x_bipush dX11_wordLine_60 (by decide) ?_
    refine x_icmple (tgt := 74) r62 ⟨by decide, by decide⟩ dX11_wordLine_62 (by decide) (fun k63 => ?_) (fun k63 => ?_)
    · have h := h.1 k63
      exact x_sub [0, 1] rfl (xX11_wordLine_b74 x b1 μ Q   h)
    · have h := h.2 k63
      refine x_aload_n 0 rfl dX11_wordLine_65 ?_
      refine x_iconst dX11_wordLine_66 ?_
      refine x_aload_n 0 rfl dX11_wordLine_67 ?_
      refine x_getI (j := 4) ly260 (by decide) rfl rfl (by decide) inT11 fl_X11_93 dX11_wordLine_68 (fun r64 => ?_)
      refine x_callVv (As := [iV 4, iV (μ 260 4)]) (rest := []) cal_X11_wrong ins_X11_wrong sel_X11_wrong ly260 (by decide) rfl (xX11_wrong x 4 (μ 260 4) _ _ ⟨by decide, by decide⟩ r64 h) rfl ml_X11_139 (xRoom (Nat.le_of_ble_eq_true rfl)) (Nat.le_of_ble_eq_true rfl) dX11_wordLine_71 (fun μ65 n66 h => ?_)
      have h := h n66
      exact x_sub [0, 1] rfl (xX11_wordLine_b74 x b1 μ65 Q   h)
set_option maxRecDepth 100000 in
set_option maxHeartbeats 4000000 in
theorem xX11_wordLine (x : xX)  (μ : xM) (Q : xM → Prop)  (h : tX11_wordLine  μ Q) : xMet x 9 yX11_wordLine cX11_wordLine 3 none [.ref (x.2.2.1 + 260)] μ (xQv x Q) := by
  refine xMet_of (by decide +kernel) (Nat.le_of_ble_eq_true rfl) ?_
  show xW x (xRm 9, RX11, cX11_wordLine, 3, none, fun _ _ => True) (xQv x Q) 0 [(0, .ref (x.2.2.1 + 260))] [] μ
  refine x_ran (fun n0 => ?_)
  have h := h n0 
  refine x_aload_n 0 rfl dX11_wordLine_0 ?_
  refine x_getI (j := 13) ly260 (by decide) rfl rfl (by decide) inT11 fl_X11_112 dX11_wordLine_1 (fun r1 => ?_)
  refine x_ifeq (tgt := 8) r1  dX11_wordLine_4 (by decide) (fun k2 => ?_) (fun k2 => ?_)
  · have h := h.1 k2
    refine x_aload_n 0 rfl dX11_wordLine_8 ?_
    refine x_getR (j := 16) (r := 264) ly260 (by decide) rfl rfl (by decide) inT11 fl_X11_23 dX11_wordLine_9 ?_
    refine x_iconst dX11_wordLine_12 ?_
    refine x_iald ly264 (by decide) (by decide) ⟨by decide, by decide⟩ (by decide) dX11_wordLine_13 (fun r3 => ?_)
    refine x_istore_n [(1, iV (μ 264 3)), (0, .ref (x.2.2.1 + 260))] dX11_wordLine_14 (show 1 < 3 by decide) rfl ?_
    refine x_aload_n 1 rfl dX11_wordLine_15 ?_
    refine x_callVv (As := []) (rest := []) cal_X11_mustWord ins_X11_mustWord sel_X11_mustWord ly260 (by decide) rfl (xX11_mustWord x  _ _  h) rfl ml_X11_222 (xRoom (Nat.le_of_ble_eq_true rfl)) (Nat.le_of_ble_eq_true rfl) dX11_wordLine_16 (fun μ4 n5 h => ?_)
    have h := h n5
    refine x_aload_n 1 rfl dX11_wordLine_19 ?_
    refine x_getI (j := 13) ly260 (by decide) rfl rfl (by decide) inT11 fl_X11_112 dX11_wordLine_20 (fun r6 => ?_)
    refine x_ifne (tgt := 49) r6  dX11_wordLine_23 (by decide) (fun k7 => ?_) (fun k7 => ?_)
    · have h := h.1 k7
      exact x_sub [1, 0] rfl (xX11_wordLine_b49 x (μ 264 3) μ4 Q   h)
    · have h := h.2 k7
      refine x_aload_n 1 rfl dX11_wordLine_26 ?_
      refine x_iload_n 0 rfl dX11_wordLine_27 ?_
      refine x_bipush dX11_wordLine_28 (by decide) ?_
      refine x_bipush dX11_wordLine_30 (by decide) ?_
      refine x_bipush dX11_wordLine_32 (by decide) ?_
      refine x_callVi (As := [iV (μ 264 3), iV 7, iV 31, iV 6]) (rest := []) cal_X11_find ins_X11_find sel_X11_find ly260 (by decide) rfl (xX11_find x (μ 264 3) 7 31 6 _ _ r3 ⟨by decide, by decide⟩ ⟨by decide, by decide⟩ ⟨by decide, by decide⟩ h) rfl ml_X11_225 (xRoom (Nat.le_of_ble_eq_true rfl)) (Nat.le_of_ble_eq_true rfl) dX11_wordLine_34 (fun r69 μ67 i70 n68 h => ?_)
      have h := h i70 n68
      refine x_iflt (tgt := 49) i70  dX11_wordLine_37 (by decide) (fun k71 => ?_) (fun k71 => ?_)
      · have h := h.1 k71
        exact x_sub [1, 0] rfl (xX11_wordLine_b49 x (μ 264 3) μ67 Q   h)
      · have h := h.2 k71
        refine x_aload_n 1 rfl dX11_wordLine_40 ?_
        refine x_iconst dX11_wordLine_41 ?_
        refine x_aload_n 1 rfl dX11_wordLine_42 ?_
        refine x_getI (j := 4) ly260 (by decide) rfl rfl (by decide) inT11 fl_X11_93 dX11_wordLine_43 (fun r72 => ?_)
        refine x_callVv (As := [iV 3, iV (μ67 260 4)]) (rest := []) cal_X11_wrong ins_X11_wrong sel_X11_wrong ly260 (by decide) rfl (xX11_wrong x 3 (μ67 260 4) _ _ ⟨by decide, by decide⟩ r72 h) rfl ml_X11_139 (xRoom (Nat.le_of_ble_eq_true rfl)) (Nat.le_of_ble_eq_true rfl) dX11_wordLine_46 (fun μ73 n74 h => ?_)
        have h := h n74
        exact x_sub [1, 0] rfl (xX11_wordLine_b49 x (μ 264 3) μ73 Q   h)
  · have h := h.2 k2
    exact x_vret h rfl dX11_wordLine_7
set_option maxRecDepth 100000 in
set_option maxHeartbeats 4000000 in
theorem xX11_guestLine_b82 (x : xX)  (b2 : Int) (μ : xM) (Q : xM → Prop) (J13 : Int → xM → Prop)   (hJ13 : ∀ (c1 : Int) (ν : xM), J13 c1 ν → xW x (xRm 4, RX11, cX11_guestLine, 4, none, fun _ _ => True) (xQv x Q) 13 [(0, .ref (x.2.2.1 + 260)), (1, iV c1)] [] ν) (h : tX11_guestLine_b82  b2 μ Q J13) : xW x (xRm 4, RX11, cX11_guestLine, 4, none, fun _ _ => True) (xQv x Q) 82 [(0, .ref (x.2.2.1 + 260)), (2, iV b2)] [] μ := by
  refine x_ran (fun n0 => ?_)
  have h := h n0
  refine x_aload_n 0 rfl dX11_guestLine_82 ?_
  refine x_getI (j := 13) ly260 (by decide) rfl rfl (by decide) inT11 fl_X11_112 dX11_guestLine_83 (fun r15 => ?_)
  refine x_ifeq (tgt := 90) r15  dX11_guestLine_86 (by decide) (fun k16 => ?_) (fun k16 => ?_)
  · have h := h.1 k16
    refine x_iconst dX11_guestLine_90 ?_
    refine x_istore_n [(3, iV 0), (0, .ref (x.2.2.1 + 260)), (2, iV b2)] dX11_guestLine_91 (show 3 < 4 by decide) rfl ?_
    refine x_sub [1, 2, 0] rfl ?_
    refine x_loop1 (fun l3_17 => [(0, .ref (x.2.2.1 + 260)), (2, iV b2), (3, iV l3_17)]) h (fun J92 l3_17 μ18 hJ92 h n19 => ?_)
    refine x_iload_n 2 rfl dX11_guestLine_92 ?_
    refine x_aload_n 0 rfl dX11_guestLine_93 ?_
    refine x_getI (j := 8) ly260 (by decide) rfl rfl (by decide) inT11 fl_X11_96 dX11_guestLine_94 (fun r20 => ?_)
    obtain ⟨c21, h⟩ := h
    refine x_icmpge (tgt := 127) c21 r20 dX11_guestLine_97 (by decide) (fun k22 => ?_) (fun k22 => ?_)
    · have h := h.1 k22
      refine x_aload_n 0 rfl dX11_guestLine_127 ?_
      refine x_getR (j := 16) (r := 264) ly260 (by decide) rfl rfl (by decide) inT11 fl_X11_23 dX11_guestLine_128 ?_
      refine x_sipush dX11_guestLine_131 (by decide) ?_
      refine x_iload_n 1 rfl dX11_guestLine_134 ?_
      refine x_iadd dX11_guestLine_135 ?_
      refine x_aload_n 0 rfl dX11_guestLine_136 ?_
      refine x_getI (j := 8) ly260 (by decide) rfl rfl (by decide) inT11 fl_X11_96 dX11_guestLine_137 (fun r23 => ?_)
      obtain ⟨c24, h⟩ := h
      refine x_iast ly264 c24.1 c24.2 (xIb (n := 322) c24 (by decide)) r23 (by decide) dX11_guestLine_140 (fun μ25 e27 n26 => ?_)
      have h := h μ25 e27 n26
      refine x_aload_n 0 rfl dX11_guestLine_141 ?_
      refine x_getR (j := 16) (r := 264) ly260 (by decide) rfl rfl (by decide) inT11 fl_X11_23 dX11_guestLine_142 ?_
      refine x_sipush dX11_guestLine_145 (by decide) ?_
      refine x_iload_n 1 rfl dX11_guestLine_148 ?_
      refine x_iadd dX11_guestLine_149 ?_
      refine x_aload_n 0 rfl dX11_guestLine_150 ?_
      refine x_getR (j := 12) (r := 262) ly260 (by decide) rfl rfl (by decide) inT11 fl_X11_17 dX11_guestLine_151 ?_
      refine x_iconst dX11_guestLine_154 ?_
      refine x_iald ly262 (by decide) (by decide) ⟨by decide, by decide⟩ (by decide) dX11_guestLine_155 (fun r28 => ?_)
      refine x_bipush dX11_guestLine_156 (by decide) ?_
      refine x_isub dX11_guestLine_158 ?_
      obtain ⟨c29, h⟩ := h
      obtain ⟨c30, h⟩ := h
      refine x_iast ly264 c29.1 c29.2 (xIb (n := 322) c29 (by decide)) c30 (by decide) dX11_guestLine_159 (fun μ31 e33 n32 => ?_)
      have h := h μ31 e33 n32
      refine x_aload_n 0 rfl dX11_guestLine_160 ?_
      refine x_getR (j := 16) (r := 264) ly260 (by decide) rfl rfl (by decide) inT11 fl_X11_23 dX11_guestLine_161 ?_
      refine x_iconst dX11_guestLine_164 ?_
      refine x_dup2 rfl rfl dX11_guestLine_165 ?_
      refine x_iald ly264 (by decide) (by decide) ⟨by decide, by decide⟩ (by decide) dX11_guestLine_166 (fun r34 => ?_)
      refine x_iconst dX11_guestLine_167 ?_
      refine x_iadd dX11_guestLine_168 ?_
      obtain ⟨c35, h⟩ := h
      refine x_iast ly264 (by decide) (by decide) ⟨by decide, by decide⟩ c35 (by decide) dX11_guestLine_169 (fun μ36 e38 n37 => ?_)
      have h := h μ36 e38 n37
      refine x_aload_n 0 rfl dX11_guestLine_170 ?_
      refine x_callVv (As := []) (rest := []) cal_X11_next ins_X11_next sel_X11_next ly260 (by decide) rfl (xX11_next x  _ _  h) rfl ml_X11_133 (xRoom (Nat.le_of_ble_eq_true rfl)) (Nat.le_of_ble_eq_true rfl) dX11_guestLine_171 (fun μ39 n40 h => ?_)
      have h := h n40
      refine x_aload_n 0 rfl dX11_guestLine_174 ?_
      refine x_callVz (As := []) (rest := []) cal_X11_comma ins_X11_comma sel_X11_comma ly260 (by decide) rfl (xX11_comma x  _ _  h) rfl ml_X11_233 (xRoom (Nat.le_of_ble_eq_true rfl)) (Nat.le_of_ble_eq_true rfl) dX11_guestLine_175 (fun r43 μ41 i44 n42 h => ?_)
      have h := h i44 n42
      refine x_istore_n [(1, iV r43), (0, .ref (x.2.2.1 + 260)), (2, iV b2), (3, iV l3_17)] dX11_guestLine_178 (show 1 < 4 by decide) rfl ?_
      refine x_goto (tgt := 13) dX11_guestLine_179 (by decide) ?_
      exact x_sub [1, 0] rfl (hJ13 _ _ h)
    · have h := h.2 k22
      refine x_aload_n 0 rfl dX11_guestLine_100 ?_
      refine x_getR (j := 16) (r := 264) ly260 (by decide) rfl rfl (by decide) inT11 fl_X11_23 dX11_guestLine_101 ?_
      refine x_sipush dX11_guestLine_104 (by decide) ?_
      refine x_bipush dX11_guestLine_107 (by decide) ?_
      refine x_iload_n 1 rfl dX11_guestLine_109 ?_
      refine x_imul dX11_guestLine_110 ?_
      refine x_iadd dX11_guestLine_111 ?_
      refine x_iload_n 2 rfl dX11_guestLine_112 ?_
      refine x_iadd dX11_guestLine_113 ?_
      refine x_aload_n 0 rfl dX11_guestLine_114 ?_
      refine x_getR (j := 12) (r := 262) ly260 (by decide) rfl rfl (by decide) inT11 fl_X11_17 dX11_guestLine_115 ?_
      refine x_iload_n 2 rfl dX11_guestLine_118 ?_
      obtain ⟨c45, h⟩ := h
      refine x_iald ly262 c45.1 c45.2 (xIb (n := 8) c45 (by decide)) (by decide) dX11_guestLine_119 (fun r46 => ?_)
      obtain ⟨c47, h⟩ := h
      refine x_iast ly264 c47.1 c47.2 (xIb (n := 322) c47 (by decide)) r46 (by decide) dX11_guestLine_120 (fun μ48 e50 n49 => ?_)
      have h := h μ48 e50 n49
      refine x_iinc 2 rfl [(3, iV (l3_17 + 1)), (0, .ref (x.2.2.1 + 260)), (2, iV b2)] dX11_guestLine_121 (show 3 < 4 by decide) rfl ?_
      refine x_goto (tgt := 92) dX11_guestLine_124 (by decide) ?_
      exact x_sub [1, 2, 0] rfl (hJ92 _ _ h)
  · have h := h.2 k16
    exact x_vret h rfl dX11_guestLine_89
set_option maxRecDepth 100000 in
set_option maxHeartbeats 4000000 in
theorem xX11_guestLine_b60 (x : xX)  (b2 : Int) (μ : xM) (Q : xM → Prop) (J13 : Int → xM → Prop)   (hJ13 : ∀ (c1 : Int) (ν : xM), J13 c1 ν → xW x (xRm 4, RX11, cX11_guestLine, 4, none, fun _ _ => True) (xQv x Q) 13 [(0, .ref (x.2.2.1 + 260)), (1, iV c1)] [] ν) (h : tX11_guestLine_b60  b2 μ Q J13) : xW x (xRm 4, RX11, cX11_guestLine, 4, none, fun _ _ => True) (xQv x Q) 60 [(0, .ref (x.2.2.1 + 260)), (2, iV b2)] [] μ := by
  refine x_ran (fun n0 => ?_)
  have h := h n0
  refine x_aload_n 0 rfl dX11_guestLine_60 ?_
  refine x_getI (j := 13) ly260 (by decide) rfl rfl (by decide) inT11 fl_X11_112 dX11_guestLine_61 (fun r13 => ?_)
  refine x_ifne (tgt := 82) r13  dX11_guestLine_64 (by decide) (fun k14 => ?_) (fun k14 => ?_)
  · have h := h.1 k14
    exact x_sub [0, 1] rfl (xX11_guestLine_b82 x b2 μ Q J13  hJ13 h)
  · have h := h.2 k14
    refine x_iload_n 1 rfl dX11_guestLine_67 ?_
    refine x_bipush dX11_guestLine_68 (by decide) ?_
    obtain ⟨c51, h⟩ := h
    refine x_icmpne (tgt := 82) c51 ⟨by decide, by decide⟩ dX11_guestLine_70 (by decide) (fun k52 => ?_) (fun k52 => ?_)
    · have h := h.1 k52
      exact x_sub [0, 1] rfl (xX11_guestLine_b82 x b2 μ Q J13  hJ13 h)
    · have h := h.2 k52
      refine x_aload_n 0 rfl dX11_guestLine_73 ?_
      refine x_iconst dX11_guestLine_74 ?_
      refine x_aload_n 0 rfl dX11_guestLine_75 ?_
      refine x_getI (j := 4) ly260 (by decide) rfl rfl (by decide) inT11 fl_X11_93 dX11_guestLine_76 (fun r53 => ?_)
      refine x_callVv (As := [iV 5, iV (μ 260 4)]) (rest := []) cal_X11_wrong ins_X11_wrong sel_X11_wrong ly260 (by decide) rfl (xX11_wrong x 5 (μ 260 4) _ _ ⟨by decide, by decide⟩ r53 h) rfl ml_X11_139 (xRoom (Nat.le_of_ble_eq_true rfl)) (Nat.le_of_ble_eq_true rfl) dX11_guestLine_79 (fun μ54 n55 h => ?_)
      have h := h n55
      exact x_sub [0, 1] rfl (xX11_guestLine_b82 x b2 μ54 Q J13  hJ13 h)
set_option maxRecDepth 100000 in
set_option maxHeartbeats 4000000 in
theorem xX11_guestLine (x : xX)  (μ : xM) (Q : xM → Prop)  (h : tX11_guestLine  μ Q) : xMet x 4 yX11_guestLine cX11_guestLine 4 none [.ref (x.2.2.1 + 260)] μ (xQv x Q) := by
  refine xMet_of (by decide +kernel) (Nat.le_of_ble_eq_true rfl) ?_
  show xW x (xRm 4, RX11, cX11_guestLine, 4, none, fun _ _ => True) (xQv x Q) 0 [(0, .ref (x.2.2.1 + 260))] [] μ
  refine x_ran (fun n0 => ?_)
  have h := h n0 
  refine x_aload_n 0 rfl dX11_guestLine_0 ?_
  refine x_getI (j := 13) ly260 (by decide) rfl rfl (by decide) inT11 fl_X11_112 dX11_guestLine_1 (fun r1 => ?_)
  refine x_ifne (tgt := 11) r1  dX11_guestLine_4 (by decide) (fun k2 => ?_) (fun k2 => ?_)
  · have h := h.1 k2
    refine x_iconst dX11_guestLine_11 ?_
    refine x_istore_n [(1, iV 0), (0, .ref (x.2.2.1 + 260))] dX11_guestLine_12 (show 1 < 4 by decide) rfl ?_
    refine x_sub [1, 0] rfl ?_
    refine x_loop1 (fun l1_3 => [(0, .ref (x.2.2.1 + 260)), (1, iV l1_3)]) h (fun J13 l1_3 μ4 hJ13 h n5 => ?_)
    refine x_iload_n 1 rfl dX11_guestLine_13 ?_
    obtain ⟨c6, h⟩ := h
    refine x_ifeq (tgt := 182) c6  dX11_guestLine_14 (by decide) (fun k7 => ?_) (fun k7 => ?_)
    · have h := h.1 k7
      exact x_vret h rfl dX11_guestLine_182
    · have h := h.2 k7
      refine x_aload_n 0 rfl dX11_guestLine_17 ?_
      refine x_callVv (As := []) (rest := []) cal_X11_mustWord ins_X11_mustWord sel_X11_mustWord ly260 (by decide) rfl (xX11_mustWord x  _ _  h) rfl ml_X11_222 (xRoom (Nat.le_of_ble_eq_true rfl)) (Nat.le_of_ble_eq_true rfl) dX11_guestLine_18 (fun μ8 n9 h => ?_)
      have h := h n9
      refine x_aload_n 0 rfl dX11_guestLine_21 ?_
      refine x_getR (j := 16) (r := 264) ly260 (by decide) rfl rfl (by decide) inT11 fl_X11_23 dX11_guestLine_22 ?_
      refine x_iconst dX11_guestLine_25 ?_
      refine x_iald ly264 (by decide) (by decide) ⟨by decide, by decide⟩ (by decide) dX11_guestLine_26 (fun r10 => ?_)
      refine x_istore_n [(2, iV (μ8 264 4)), (0, .ref (x.2.2.1 + 260)), (1, iV l1_3)] dX11_guestLine_27 (show 2 < 4 by decide) rfl ?_
      refine x_aload_n 1 rfl dX11_guestLine_28 ?_
      refine x_getI (j := 13) ly260 (by decide) rfl rfl (by decide) inT11 fl_X11_112 dX11_guestLine_29 (fun r11 => ?_)
      refine x_ifne (tgt := 60) r11  dX11_guestLine_32 (by decide) (fun k12 => ?_) (fun k12 => ?_)
      · have h := h.1 k12
        exact x_sub [1, 0] rfl (xX11_guestLine_b60 x (μ8 264 4) μ8 Q J13  hJ13 h)
      · have h := h.2 k12
        refine x_aload_n 1 rfl dX11_guestLine_35 ?_
        refine x_iload_n 0 rfl dX11_guestLine_36 ?_
        refine x_sipush dX11_guestLine_37 (by decide) ?_
        refine x_sipush dX11_guestLine_40 (by decide) ?_
        refine x_bipush dX11_guestLine_43 (by decide) ?_
        refine x_callVi (As := [iV (μ8 264 4), iV 223, iV 231, iV 8]) (rest := []) cal_X11_find ins_X11_find sel_X11_find ly260 (by decide) rfl (xX11_find x (μ8 264 4) 223 231 8 _ _ r10 ⟨by decide, by decide⟩ ⟨by decide, by decide⟩ ⟨by decide, by decide⟩ h) rfl ml_X11_225 (xRoom (Nat.le_of_ble_eq_true rfl)) (Nat.le_of_ble_eq_true rfl) dX11_guestLine_45 (fun r58 μ56 i59 n57 h => ?_)
        have h := h i59 n57
        refine x_iflt (tgt := 60) i59  dX11_guestLine_48 (by decide) (fun k60 => ?_) (fun k60 => ?_)
        · have h := h.1 k60
          exact x_sub [1, 0] rfl (xX11_guestLine_b60 x (μ8 264 4) μ56 Q J13  hJ13 h)
        · have h := h.2 k60
          refine x_aload_n 1 rfl dX11_guestLine_51 ?_
          refine x_iconst dX11_guestLine_52 ?_
          refine x_aload_n 1 rfl dX11_guestLine_53 ?_
          refine x_getI (j := 4) ly260 (by decide) rfl rfl (by decide) inT11 fl_X11_93 dX11_guestLine_54 (fun r61 => ?_)
          refine x_callVv (As := [iV 3, iV (μ56 260 4)]) (rest := []) cal_X11_wrong ins_X11_wrong sel_X11_wrong ly260 (by decide) rfl (xX11_wrong x 3 (μ56 260 4) _ _ ⟨by decide, by decide⟩ r61 h) rfl ml_X11_139 (xRoom (Nat.le_of_ble_eq_true rfl)) (Nat.le_of_ble_eq_true rfl) dX11_guestLine_57 (fun μ62 n63 h => ?_)
          have h := h n63
          exact x_sub [1, 0] rfl (xX11_guestLine_b60 x (μ8 264 4) μ62 Q J13  hJ13 h)
  · have h := h.2 k2
    refine x_iconst dX11_guestLine_7 ?_
    refine x_goto (tgt := 12) dX11_guestLine_8 (by decide) ?_
    refine x_istore_n [(1, iV 1), (0, .ref (x.2.2.1 + 260))] dX11_guestLine_12 (show 1 < 4 by decide) rfl ?_
    refine x_sub [1, 0] rfl ?_
    refine x_loop1 (fun l1_64 => [(0, .ref (x.2.2.1 + 260)), (1, iV l1_64)]) h (fun J13 l1_64 μ65 hJ13 h n66 => ?_)
    refine x_iload_n 1 rfl dX11_guestLine_13 ?_
    obtain ⟨c67, h⟩ := h
    refine x_ifeq (tgt := 182) c67  dX11_guestLine_14 (by decide) (fun k68 => ?_) (fun k68 => ?_)
    · have h := h.1 k68
      exact x_vret h rfl dX11_guestLine_182
    · have h := h.2 k68
      refine x_aload_n 0 rfl dX11_guestLine_17 ?_
      refine x_callVv (As := []) (rest := []) cal_X11_mustWord ins_X11_mustWord sel_X11_mustWord ly260 (by decide) rfl (xX11_mustWord x  _ _  h) rfl ml_X11_222 (xRoom (Nat.le_of_ble_eq_true rfl)) (Nat.le_of_ble_eq_true rfl) dX11_guestLine_18 (fun μ69 n70 h => ?_)
      have h := h n70
      refine x_aload_n 0 rfl dX11_guestLine_21 ?_
      refine x_getR (j := 16) (r := 264) ly260 (by decide) rfl rfl (by decide) inT11 fl_X11_23 dX11_guestLine_22 ?_
      refine x_iconst dX11_guestLine_25 ?_
      refine x_iald ly264 (by decide) (by decide) ⟨by decide, by decide⟩ (by decide) dX11_guestLine_26 (fun r71 => ?_)
      refine x_istore_n [(2, iV (μ69 264 4)), (0, .ref (x.2.2.1 + 260)), (1, iV l1_64)] dX11_guestLine_27 (show 2 < 4 by decide) rfl ?_
      refine x_aload_n 1 rfl dX11_guestLine_28 ?_
      refine x_getI (j := 13) ly260 (by decide) rfl rfl (by decide) inT11 fl_X11_112 dX11_guestLine_29 (fun r72 => ?_)
      refine x_ifne (tgt := 60) r72  dX11_guestLine_32 (by decide) (fun k73 => ?_) (fun k73 => ?_)
      · have h := h.1 k73
        exact x_sub [1, 0] rfl (xX11_guestLine_b60 x (μ69 264 4) μ69 Q J13  hJ13 h)
      · have h := h.2 k73
        refine x_aload_n 1 rfl dX11_guestLine_35 ?_
        refine x_iload_n 0 rfl dX11_guestLine_36 ?_
        refine x_sipush dX11_guestLine_37 (by decide) ?_
        refine x_sipush dX11_guestLine_40 (by decide) ?_
        refine x_bipush dX11_guestLine_43 (by decide) ?_
        refine x_callVi (As := [iV (μ69 264 4), iV 223, iV 231, iV 8]) (rest := []) cal_X11_find ins_X11_find sel_X11_find ly260 (by decide) rfl (xX11_find x (μ69 264 4) 223 231 8 _ _ r71 ⟨by decide, by decide⟩ ⟨by decide, by decide⟩ ⟨by decide, by decide⟩ h) rfl ml_X11_225 (xRoom (Nat.le_of_ble_eq_true rfl)) (Nat.le_of_ble_eq_true rfl) dX11_guestLine_45 (fun r76 μ74 i77 n75 h => ?_)
        have h := h i77 n75
        refine x_iflt (tgt := 60) i77  dX11_guestLine_48 (by decide) (fun k78 => ?_) (fun k78 => ?_)
        · have h := h.1 k78
          exact x_sub [1, 0] rfl (xX11_guestLine_b60 x (μ69 264 4) μ74 Q J13  hJ13 h)
        · have h := h.2 k78
          refine x_aload_n 1 rfl dX11_guestLine_51 ?_
          refine x_iconst dX11_guestLine_52 ?_
          refine x_aload_n 1 rfl dX11_guestLine_53 ?_
          refine x_getI (j := 4) ly260 (by decide) rfl rfl (by decide) inT11 fl_X11_93 dX11_guestLine_54 (fun r79 => ?_)
          refine x_callVv (As := [iV 3, iV (μ74 260 4)]) (rest := []) cal_X11_wrong ins_X11_wrong sel_X11_wrong ly260 (by decide) rfl (xX11_wrong x 3 (μ74 260 4) _ _ ⟨by decide, by decide⟩ r79 h) rfl ml_X11_139 (xRoom (Nat.le_of_ble_eq_true rfl)) (Nat.le_of_ble_eq_true rfl) dX11_guestLine_57 (fun μ80 n81 h => ?_)
          have h := h n81
          exact x_sub [1, 0] rfl (xX11_guestLine_b60 x (μ69 264 4) μ80 Q J13  hJ13 h)
set_option maxRecDepth 100000 in
set_option maxHeartbeats 4000000 in
theorem xX11_likelyLine_b119 (x : xX)  (b1 : Int) (μ : xM) (Q : xM → Prop)    (h : tX11_likelyLine_b119  b1 μ Q ) : xW x (xRm 4, RX11, cX11_likelyLine, 4, none, fun _ _ => True) (xQv x Q) 119 [(0, .ref (x.2.2.1 + 260)), (1, iV b1)] [] μ := by
  refine x_ran (fun n0 => ?_)
  have h := h n0
  refine x_aload_n 0 rfl dX11_likelyLine_119 ?_
  refine x_getI (j := 13) ly260 (by decide) rfl rfl (by decide) inT11 fl_X11_112 dX11_likelyLine_120 (fun r18 => ?_)
  refine x_ifeq (tgt := 127) r18  dX11_likelyLine_123 (by decide) (fun k19 => ?_) (fun k19 => ?_)
  · have h := h.1 k19
    refine x_aload_n 0 rfl dX11_likelyLine_127 ?_
    refine x_getR (j := 16) (r := 264) ly260 (by decide) rfl rfl (by decide) inT11 fl_X11_23 dX11_likelyLine_128 ?_
    refine x_sipush dX11_likelyLine_131 (by decide) ?_
    refine x_iload_n 1 rfl dX11_likelyLine_134 ?_
    refine x_iadd dX11_likelyLine_135 ?_
    refine x_aload_n 0 rfl dX11_likelyLine_136 ?_
    refine x_getR (j := 12) (r := 262) ly260 (by decide) rfl rfl (by decide) inT11 fl_X11_17 dX11_likelyLine_137 ?_
    refine x_iconst dX11_likelyLine_140 ?_
    refine x_iald ly262 (by decide) (by decide) ⟨by decide, by decide⟩ (by decide) dX11_likelyLine_141 (fun r20 => ?_)
    refine x_bipush dX11_likelyLine_142 (by decide) ?_
    refine x_isub dX11_likelyLine_144 ?_
    obtain ⟨c21, h⟩ := h
    obtain ⟨c22, h⟩ := h
    refine x_iast ly264 c21.1 c21.2 (xIb (n := 322) c21 (by decide)) c22 (by decide) dX11_likelyLine_145 (fun μ23 e25 n24 => ?_)
    have h := h μ23 e25 n24
    refine x_aload_n 0 rfl dX11_likelyLine_146 ?_
    refine x_callVv (As := []) (rest := []) cal_X11_next ins_X11_next sel_X11_next ly260 (by decide) rfl (xX11_next x  _ _  h) rfl ml_X11_133 (xRoom (Nat.le_of_ble_eq_true rfl)) (Nat.le_of_ble_eq_true rfl) dX11_likelyLine_147 (fun μ26 n27 h => ?_)
    have h := h n27
    refine x_aload_n 0 rfl dX11_likelyLine_150 ?_
    refine x_getR (j := 16) (r := 264) ly260 (by decide) rfl rfl (by decide) inT11 fl_X11_23 dX11_likelyLine_151 ?_
    refine x_sipush dX11_likelyLine_154 (by decide) ?_
    refine x_iload_n 1 rfl dX11_likelyLine_157 ?_
    refine x_iadd dX11_likelyLine_158 ?_
    refine x_aload_n 0 rfl dX11_likelyLine_159 ?_
    refine x_iconst dX11_likelyLine_160 ?_
    refine x_bipush dX11_likelyLine_161 (by decide) ?_
    refine x_callVi (As := [iV 1, iV 9]) (rest := [iV (309 + b1), .ref (x.2.2.1 + 264)]) cal_X11_number ins_X11_number sel_X11_number ly260 (by decide) rfl (xX11_number x 1 9 _ _ ⟨by decide, by decide⟩ ⟨by decide, by decide⟩ h) rfl ml_X11_151 (xRoom (Nat.le_of_ble_eq_true rfl)) (Nat.le_of_ble_eq_true rfl) dX11_likelyLine_163 (fun r30 μ28 i31 n29 h => ?_)
    have h := h i31 n29
    obtain ⟨c32, h⟩ := h
    refine x_iast ly264 c32.1 c32.2 (xIb (n := 322) c32 (by decide)) i31 (by decide) dX11_likelyLine_166 (fun μ33 e35 n34 => ?_)
    have h := h μ33 e35 n34
    refine x_aload_n 0 rfl dX11_likelyLine_167 ?_
    refine x_getI (j := 13) ly260 (by decide) rfl rfl (by decide) inT11 fl_X11_112 dX11_likelyLine_168 (fun r36 => ?_)
    refine x_ifne (tgt := 184) r36  dX11_likelyLine_171 (by decide) (fun k37 => ?_) (fun k37 => ?_)
    · have h := h.1 k37
      exact x_vret h rfl dX11_likelyLine_184
    · have h := h.2 k37
      refine x_aload_n 0 rfl dX11_likelyLine_174 ?_
      refine x_getR (j := 16) (r := 264) ly260 (by decide) rfl rfl (by decide) inT11 fl_X11_23 dX11_likelyLine_175 ?_
      refine x_iconst dX11_likelyLine_178 ?_
      refine x_dup2 rfl rfl dX11_likelyLine_179 ?_
      refine x_iald ly264 (by decide) (by decide) ⟨by decide, by decide⟩ (by decide) dX11_likelyLine_180 (fun r38 => ?_)
      refine x_iconst dX11_likelyLine_181 ?_
      refine x_iadd dX11_likelyLine_182 ?_
      obtain ⟨c39, h⟩ := h
      refine x_iast ly264 (by decide) (by decide) ⟨by decide, by decide⟩ c39 (by decide) dX11_likelyLine_183 (fun μ40 e42 n41 => ?_)
      have h := h μ40 e42 n41
      exact x_vret h rfl dX11_likelyLine_184
  · have h := h.2 k19
    exact x_vret h rfl dX11_likelyLine_126
set_option maxRecDepth 100000 in
set_option maxHeartbeats 4000000 in
theorem xX11_likelyLine_b95 (x : xX)  (b1 : Int) (μ : xM) (Q : xM → Prop)    (h : tX11_likelyLine_b95  b1 μ Q ) : xW x (xRm 4, RX11, cX11_likelyLine, 4, none, fun _ _ => True) (xQv x Q) 95 [(0, .ref (x.2.2.1 + 260)), (1, iV b1)] [] μ := by
  refine x_ran (fun n0 => ?_)
  have h := h n0
  refine x_aload_n 0 rfl dX11_likelyLine_95 ?_
  refine x_getI (j := 13) ly260 (by decide) rfl rfl (by decide) inT11 fl_X11_112 dX11_likelyLine_96 (fun r16 => ?_)
  refine x_ifne (tgt := 119) r16  dX11_likelyLine_99 (by decide) (fun k17 => ?_) (fun k17 => ?_)
  · have h := h.1 k17
    exact x_sub [0, 1] rfl (xX11_likelyLine_b119 x b1 μ Q   h)
  · have h := h.2 k17
    refine x_aload_n 0 rfl dX11_likelyLine_102 ?_
    refine x_getI (j := 8) ly260 (by decide) rfl rfl (by decide) inT11 fl_X11_96 dX11_likelyLine_103 (fun r43 => ?_)
    refine x_iconst dX11_likelyLine_106 ?_
    refine x_icmple (tgt := 119) r43 ⟨by decide, by decide⟩ dX11_likelyLine_107 (by decide) (fun k44 => ?_) (fun k44 => ?_)
    · have h := h.1 k44
      exact x_sub [0, 1] rfl (xX11_likelyLine_b119 x b1 μ Q   h)
    · have h := h.2 k44
      refine x_aload_n 0 rfl dX11_likelyLine_110 ?_
      refine x_iconst dX11_likelyLine_111 ?_
      refine x_aload_n 0 rfl dX11_likelyLine_112 ?_
      refine x_getI (j := 4) ly260 (by decide) rfl rfl (by decide) inT11 fl_X11_93 dX11_likelyLine_113 (fun r45 => ?_)
      refine x_callVv (As := [iV 4, iV (μ 260 4)]) (rest := []) cal_X11_wrong ins_X11_wrong sel_X11_wrong ly260 (by decide) rfl (xX11_wrong x 4 (μ 260 4) _ _ ⟨by decide, by decide⟩ r45 h) rfl ml_X11_139 (xRoom (Nat.le_of_ble_eq_true rfl)) (Nat.le_of_ble_eq_true rfl) dX11_likelyLine_116 (fun μ46 n47 h => ?_)
      have h := h n47
      exact x_sub [0, 1] rfl (xX11_likelyLine_b119 x b1 μ46 Q   h)
set_option maxRecDepth 100000 in
set_option maxHeartbeats 4000000 in
theorem xX11_likelyLine (x : xX)  (μ : xM) (Q : xM → Prop)  (h : tX11_likelyLine  μ Q) : xMet x 4 yX11_likelyLine cX11_likelyLine 4 none [.ref (x.2.2.1 + 260)] μ (xQv x Q) := by
  refine xMet_of (by decide +kernel) (Nat.le_of_ble_eq_true rfl) ?_
  show xW x (xRm 4, RX11, cX11_likelyLine, 4, none, fun _ _ => True) (xQv x Q) 0 [(0, .ref (x.2.2.1 + 260))] [] μ
  refine x_ran (fun n0 => ?_)
  have h := h n0 
  refine x_aload_n 0 rfl dX11_likelyLine_0 ?_
  refine x_getI (j := 13) ly260 (by decide) rfl rfl (by decide) inT11 fl_X11_112 dX11_likelyLine_1 (fun r1 => ?_)
  refine x_ifeq (tgt := 8) r1  dX11_likelyLine_4 (by decide) (fun k2 => ?_) (fun k2 => ?_)
  · have h := h.1 k2
    refine x_aload_n 0 rfl dX11_likelyLine_8 ?_
    refine x_getR (j := 16) (r := 264) ly260 (by decide) rfl rfl (by decide) inT11 fl_X11_23 dX11_likelyLine_9 ?_
    refine x_iconst dX11_likelyLine_12 ?_
    refine x_iald ly264 (by decide) (by decide) ⟨by decide, by decide⟩ (by decide) dX11_likelyLine_13 (fun r3 => ?_)
    refine x_istore_n [(1, iV (μ 264 5)), (0, .ref (x.2.2.1 + 260))] dX11_likelyLine_14 (show 1 < 4 by decide) rfl ?_
    refine x_aload_n 1 rfl dX11_likelyLine_15 ?_
    refine x_callVv (As := []) (rest := []) cal_X11_mustWord ins_X11_mustWord sel_X11_mustWord ly260 (by decide) rfl (xX11_mustWord x  _ _  h) rfl ml_X11_222 (xRoom (Nat.le_of_ble_eq_true rfl)) (Nat.le_of_ble_eq_true rfl) dX11_likelyLine_16 (fun μ4 n5 h => ?_)
    have h := h n5
    refine x_aload_n 1 rfl dX11_likelyLine_19 ?_
    refine x_getI (j := 13) ly260 (by decide) rfl rfl (by decide) inT11 fl_X11_112 dX11_likelyLine_20 (fun r6 => ?_)
    refine x_ifeq (tgt := 27) r6  dX11_likelyLine_23 (by decide) (fun k7 => ?_) (fun k7 => ?_)
    · have h := h.1 k7
      refine x_iconst dX11_likelyLine_27 ?_
      refine x_istore_n [(2, iV 0), (1, iV (μ 264 5)), (0, .ref (x.2.2.1 + 260))] dX11_likelyLine_28 (show 2 < 4 by decide) rfl ?_
      refine x_iconst dX11_likelyLine_29 ?_
      refine x_istore_n [(3, iV 0), (2, iV 0), (1, iV (μ 264 5)), (0, .ref (x.2.2.1 + 260))] dX11_likelyLine_30 (show 3 < 4 by decide) rfl ?_
      refine x_sub [3, 2, 1, 0] rfl ?_
      refine x_loop2 (fun l2_8 l3_9 => [(0, .ref (x.2.2.1 + 260)), (1, iV (μ 264 5)), (2, iV l2_8), (3, iV l3_9)]) h (fun J31 l2_8 l3_9 μ10 hJ31 h n11 => ?_)
      refine x_iload_n 3 rfl dX11_likelyLine_31 ?_
      refine x_iload_n 1 rfl dX11_likelyLine_32 ?_
      obtain ⟨c12, h⟩ := h
      refine x_icmpge (tgt := 82) c12 r3 dX11_likelyLine_33 (by decide) (fun k13 => ?_) (fun k13 => ?_)
      · have h := h.1 k13
        refine x_iload_n 2 rfl dX11_likelyLine_82 ?_
        obtain ⟨c14, h⟩ := h
        refine x_ifeq (tgt := 95) c14  dX11_likelyLine_83 (by decide) (fun k15 => ?_) (fun k15 => ?_)
        · have h := h.1 k15
          exact x_sub [0, 1] rfl (xX11_likelyLine_b95 x (μ 264 5) μ10 Q   h)
        · have h := h.2 k15
          refine x_aload_n 0 rfl dX11_likelyLine_86 ?_
          refine x_iconst dX11_likelyLine_87 ?_
          refine x_aload_n 0 rfl dX11_likelyLine_88 ?_
          refine x_getI (j := 4) ly260 (by decide) rfl rfl (by decide) inT11 fl_X11_93 dX11_likelyLine_89 (fun r48 => ?_)
          refine x_callVv (As := [iV 3, iV (μ10 260 4)]) (rest := []) cal_X11_wrong ins_X11_wrong sel_X11_wrong ly260 (by decide) rfl (xX11_wrong x 3 (μ10 260 4) _ _ ⟨by decide, by decide⟩ r48 h) rfl ml_X11_139 (xRoom (Nat.le_of_ble_eq_true rfl)) (Nat.le_of_ble_eq_true rfl) dX11_likelyLine_92 (fun μ49 n50 h => ?_)
          have h := h n50
          exact x_sub [0, 1] rfl (xX11_likelyLine_b95 x (μ 264 5) μ49 Q   h)
      · have h := h.2 k13
        refine x_iload_n 2 rfl dX11_likelyLine_36 ?_
        obtain ⟨c51, h⟩ := h
        refine x_ifne (tgt := 70) c51  dX11_likelyLine_37 (by decide) (fun k52 => ?_) (fun k52 => ?_)
        · have h := h.1 k52
          refine x_iconst dX11_likelyLine_70 ?_
          refine x_goto (tgt := 75) dX11_likelyLine_71 (by decide) ?_
          refine x_istore_n [(2, iV 1), (0, .ref (x.2.2.1 + 260)), (1, iV (μ 264 5)), (3, iV l3_9)] dX11_likelyLine_75 (show 2 < 4 by decide) rfl ?_
          refine x_iinc 3 rfl [(3, iV (l3_9 + 1)), (2, iV 1), (0, .ref (x.2.2.1 + 260)), (1, iV (μ 264 5))] dX11_likelyLine_76 (show 3 < 4 by decide) rfl ?_
          refine x_goto (tgt := 31) dX11_likelyLine_79 (by decide) ?_
          exact x_sub [2, 3, 1, 0] rfl (hJ31 _ _ _ h)
        · have h := h.2 k52
          refine x_aload_n 0 rfl dX11_likelyLine_40 ?_
          refine x_getI (j := 8) ly260 (by decide) rfl rfl (by decide) inT11 fl_X11_96 dX11_likelyLine_41 (fun r53 => ?_)
          refine x_iconst dX11_likelyLine_44 ?_
          refine x_icmpne (tgt := 74) r53 ⟨by decide, by decide⟩ dX11_likelyLine_45 (by decide) (fun k54 => ?_) (fun k54 => ?_)
          · have h := h.1 k54
            refine x_iconst dX11_likelyLine_74 ?_
            refine x_istore_n [(2, iV 0), (0, .ref (x.2.2.1 + 260)), (1, iV (μ 264 5)), (3, iV l3_9)] dX11_likelyLine_75 (show 2 < 4 by decide) rfl ?_
            refine x_iinc 3 rfl [(3, iV (l3_9 + 1)), (2, iV 0), (0, .ref (x.2.2.1 + 260)), (1, iV (μ 264 5))] dX11_likelyLine_76 (show 3 < 4 by decide) rfl ?_
            refine x_goto (tgt := 31) dX11_likelyLine_79 (by decide) ?_
            exact x_sub [2, 3, 1, 0] rfl (hJ31 _ _ _ h)
          · have h := h.2 k54
            refine x_aload_n 0 rfl dX11_likelyLine_48 ?_
            refine x_getR (j := 16) (r := 264) ly260 (by decide) rfl rfl (by decide) inT11 fl_X11_23 dX11_likelyLine_49 ?_
            refine x_sipush dX11_likelyLine_52 (by decide) ?_
            refine x_iload_n 3 rfl dX11_likelyLine_55 ?_
            refine x_iadd dX11_likelyLine_56 ?_
            obtain ⟨c55, h⟩ := h
            refine x_iald ly264 c55.1 c55.2 (xIb (n := 322) c55 (by decide)) (by decide) dX11_likelyLine_57 (fun r56 => ?_)
            refine x_aload_n 0 rfl dX11_likelyLine_58 ?_
            refine x_getR (j := 12) (r := 262) ly260 (by decide) rfl rfl (by decide) inT11 fl_X11_17 dX11_likelyLine_59 ?_
            refine x_iconst dX11_likelyLine_62 ?_
            refine x_iald ly262 (by decide) (by decide) ⟨by decide, by decide⟩ (by decide) dX11_likelyLine_63 (fun r57 => ?_)
            refine x_bipush dX11_likelyLine_64 (by decide) ?_
            refine x_isub dX11_likelyLine_66 ?_
            obtain ⟨c58, h⟩ := h
            refine x_icmpne (tgt := 74) r56 c58 dX11_likelyLine_67 (by decide) (fun k59 => ?_) (fun k59 => ?_)
            · have h := h.1 k59
              refine x_iconst dX11_likelyLine_74 ?_
              refine x_istore_n [(2, iV 0), (0, .ref (x.2.2.1 + 260)), (1, iV (μ 264 5)), (3, iV l3_9)] dX11_likelyLine_75 (show 2 < 4 by decide) rfl ?_
              refine x_iinc 3 rfl [(3, iV (l3_9 + 1)), (2, iV 0), (0, .ref (x.2.2.1 + 260)), (1, iV (μ 264 5))] dX11_likelyLine_76 (show 3 < 4 by decide) rfl ?_
              refine x_goto (tgt := 31) dX11_likelyLine_79 (by decide) ?_
              exact x_sub [2, 3, 1, 0] rfl (hJ31 _ _ _ h)
            · have h := h.2 k59
              refine x_iconst dX11_likelyLine_70 ?_
              refine x_goto (tgt := 75) dX11_likelyLine_71 (by decide) ?_
              refine x_istore_n [(2, iV 1), (0, .ref (x.2.2.1 + 260)), (1, iV (μ 264 5)), (3, iV l3_9)] dX11_likelyLine_75 (show 2 < 4 by decide) rfl ?_
              refine x_iinc 3 rfl [(3, iV (l3_9 + 1)), (2, iV 1), (0, .ref (x.2.2.1 + 260)), (1, iV (μ 264 5))] dX11_likelyLine_76 (show 3 < 4 by decide) rfl ?_
              refine x_goto (tgt := 31) dX11_likelyLine_79 (by decide) ?_
              exact x_sub [2, 3, 1, 0] rfl (hJ31 _ _ _ h)
    · have h := h.2 k7
      exact x_vret h rfl dX11_likelyLine_26
  · have h := h.2 k2
    exact x_vret h rfl dX11_likelyLine_7
set_option maxRecDepth 100000 in
set_option maxHeartbeats 4000000 in
theorem xX11_seenLine_b103 (x : xX)  (b2 : Int) (μ : xM) (Q : xM → Prop) (J19 : Int → xM → Prop)   (hJ19 : ∀ (c1 : Int) (ν : xM), J19 c1 ν → xW x (xRm 4, RX11, cX11_seenLine, 3, none, fun _ _ => True) (xQv x Q) 19 [(0, .ref (x.2.2.1 + 260)), (1, iV c1)] [] ν) (h : tX11_seenLine_b103  b2 μ Q J19) : xW x (xRm 4, RX11, cX11_seenLine, 3, none, fun _ _ => True) (xQv x Q) 103 [(0, .ref (x.2.2.1 + 260)), (2, iV b2)] [] μ := by
  refine x_ran (fun n0 => ?_)
  have h := h n0
  refine x_aload_n 0 rfl dX11_seenLine_103 ?_
  refine x_getI (j := 13) ly260 (by decide) rfl rfl (by decide) inT11 fl_X11_112 dX11_seenLine_104 (fun r24 => ?_)
  refine x_ifeq (tgt := 111) r24  dX11_seenLine_107 (by decide) (fun k25 => ?_) (fun k25 => ?_)
  · have h := h.1 k25
    refine x_aload_n 0 rfl dX11_seenLine_111 ?_
    refine x_getR (j := 16) (r := 264) ly260 (by decide) rfl rfl (by decide) inT11 fl_X11_23 dX11_seenLine_112 ?_
    refine x_sipush dX11_seenLine_115 (by decide) ?_
    refine x_aload_n 0 rfl dX11_seenLine_118 ?_
    refine x_getR (j := 16) (r := 264) ly260 (by decide) rfl rfl (by decide) inT11 fl_X11_23 dX11_seenLine_119 ?_
    refine x_bipush dX11_seenLine_122 (by decide) ?_
    refine x_iald ly264 (by decide) (by decide) ⟨by decide, by decide⟩ (by decide) dX11_seenLine_124 (fun r26 => ?_)
    refine x_iadd dX11_seenLine_125 ?_
    refine x_iload_n 1 rfl dX11_seenLine_126 ?_
    obtain ⟨c27, h⟩ := h
    obtain ⟨c28, h⟩ := h
    refine x_iast ly264 c27.1 c27.2 (xIb (n := 322) c27 (by decide)) c28 (by decide) dX11_seenLine_127 (fun μ29 e31 n30 => ?_)
    have h := h μ29 e31 n30
    refine x_aload_n 0 rfl dX11_seenLine_128 ?_
    refine x_getR (j := 16) (r := 264) ly260 (by decide) rfl rfl (by decide) inT11 fl_X11_23 dX11_seenLine_129 ?_
    refine x_bipush dX11_seenLine_132 (by decide) ?_
    refine x_dup2 rfl rfl dX11_seenLine_134 ?_
    refine x_iald ly264 (by decide) (by decide) ⟨by decide, by decide⟩ (by decide) dX11_seenLine_135 (fun r32 => ?_)
    refine x_iconst dX11_seenLine_136 ?_
    refine x_iadd dX11_seenLine_137 ?_
    obtain ⟨c33, h⟩ := h
    refine x_iast ly264 (by decide) (by decide) ⟨by decide, by decide⟩ c33 (by decide) dX11_seenLine_138 (fun μ34 e36 n35 => ?_)
    have h := h μ34 e36 n35
    refine x_aload_n 0 rfl dX11_seenLine_139 ?_
    refine x_callVv (As := []) (rest := []) cal_X11_next ins_X11_next sel_X11_next ly260 (by decide) rfl (xX11_next x  _ _  h) rfl ml_X11_133 (xRoom (Nat.le_of_ble_eq_true rfl)) (Nat.le_of_ble_eq_true rfl) dX11_seenLine_140 (fun μ37 n38 h => ?_)
    have h := h n38
    refine x_aload_n 0 rfl dX11_seenLine_143 ?_
    refine x_callVz (As := []) (rest := []) cal_X11_comma ins_X11_comma sel_X11_comma ly260 (by decide) rfl (xX11_comma x  _ _  h) rfl ml_X11_233 (xRoom (Nat.le_of_ble_eq_true rfl)) (Nat.le_of_ble_eq_true rfl) dX11_seenLine_144 (fun r41 μ39 i42 n40 h => ?_)
    have h := h i42 n40
    refine x_istore_n [(1, iV r41), (0, .ref (x.2.2.1 + 260)), (2, iV b2)] dX11_seenLine_147 (show 1 < 3 by decide) rfl ?_
    refine x_goto (tgt := 19) dX11_seenLine_148 (by decide) ?_
    exact x_sub [1, 0] rfl (hJ19 _ _ h)
  · have h := h.2 k25
    exact x_vret h rfl dX11_seenLine_110
set_option maxRecDepth 100000 in
set_option maxHeartbeats 4000000 in
theorem xX11_seenLine_b75 (x : xX)  (b2 : Int) (μ : xM) (Q : xM → Prop) (J19 : Int → xM → Prop)   (hJ19 : ∀ (c1 : Int) (ν : xM), J19 c1 ν → xW x (xRm 4, RX11, cX11_seenLine, 3, none, fun _ _ => True) (xQv x Q) 19 [(0, .ref (x.2.2.1 + 260)), (1, iV c1)] [] ν) (h : tX11_seenLine_b75  b2 μ Q J19) : xW x (xRm 4, RX11, cX11_seenLine, 3, none, fun _ _ => True) (xQv x Q) 75 [(0, .ref (x.2.2.1 + 260)), (2, iV b2)] [] μ := by
  refine x_ran (fun n0 => ?_)
  have h := h n0
  refine x_aload_n 0 rfl dX11_seenLine_75 ?_
  refine x_getI (j := 13) ly260 (by decide) rfl rfl (by decide) inT11 fl_X11_112 dX11_seenLine_76 (fun r22 => ?_)
  refine x_ifne (tgt := 103) r22  dX11_seenLine_79 (by decide) (fun k23 => ?_) (fun k23 => ?_)
  · have h := h.1 k23
    exact x_sub [0, 1] rfl (xX11_seenLine_b103 x b2 μ Q J19  hJ19 h)
  · have h := h.2 k23
    refine x_aload_n 0 rfl dX11_seenLine_82 ?_
    refine x_getR (j := 16) (r := 264) ly260 (by decide) rfl rfl (by decide) inT11 fl_X11_23 dX11_seenLine_83 ?_
    refine x_bipush dX11_seenLine_86 (by decide) ?_
    refine x_iald ly264 (by decide) (by decide) ⟨by decide, by decide⟩ (by decide) dX11_seenLine_88 (fun r43 => ?_)
    refine x_bipush dX11_seenLine_89 (by decide) ?_
    refine x_icmpne (tgt := 103) r43 ⟨by decide, by decide⟩ dX11_seenLine_91 (by decide) (fun k44 => ?_) (fun k44 => ?_)
    · have h := h.1 k44
      exact x_sub [0, 1] rfl (xX11_seenLine_b103 x b2 μ Q J19  hJ19 h)
    · have h := h.2 k44
      refine x_aload_n 0 rfl dX11_seenLine_94 ?_
      refine x_iconst dX11_seenLine_95 ?_
      refine x_aload_n 0 rfl dX11_seenLine_96 ?_
      refine x_getI (j := 4) ly260 (by decide) rfl rfl (by decide) inT11 fl_X11_93 dX11_seenLine_97 (fun r45 => ?_)
      refine x_callVv (As := [iV 5, iV (μ 260 4)]) (rest := []) cal_X11_wrong ins_X11_wrong sel_X11_wrong ly260 (by decide) rfl (xX11_wrong x 5 (μ 260 4) _ _ ⟨by decide, by decide⟩ r45 h) rfl ml_X11_139 (xRoom (Nat.le_of_ble_eq_true rfl)) (Nat.le_of_ble_eq_true rfl) dX11_seenLine_100 (fun μ46 n47 h => ?_)
      have h := h n47
      exact x_sub [0, 1] rfl (xX11_seenLine_b103 x b2 μ46 Q J19  hJ19 h)
set_option maxRecDepth 100000 in
set_option maxHeartbeats 4000000 in
theorem xX11_seenLine_b54 (x : xX)  (s0 : Int) (μ : xM) (Q : xM → Prop) (J19 : Int → xM → Prop)   (hJ19 : ∀ (c1 : Int) (ν : xM), J19 c1 ν → xW x (xRm 4, RX11, cX11_seenLine, 3, none, fun _ _ => True) (xQv x Q) 19 [(0, .ref (x.2.2.1 + 260)), (1, iV c1)] [] ν) (h : tX11_seenLine_b54  s0 μ Q J19) : xW x (xRm 4, RX11, cX11_seenLine, 3, none, fun _ _ => True) (xQv x Q) 54 [(0, .ref (x.2.2.1 + 260))] [iV s0] μ := by
  refine x_ran (fun n0 => ?_)
  have h := h n0
  refine x_istore_n [(2, iV s0), (0, .ref (x.2.2.1 + 260))] dX11_seenLine_54 (show 2 < 3 by decide) rfl ?_
  refine x_aload_n 1 rfl dX11_seenLine_55 ?_
  refine x_getI (j := 13) ly260 (by decide) rfl rfl (by decide) inT11 fl_X11_112 dX11_seenLine_56 (fun r20 => ?_)
  refine x_ifne (tgt := 75) r20  dX11_seenLine_59 (by decide) (fun k21 => ?_) (fun k21 => ?_)
  · have h := h.1 k21
    exact x_sub [1, 0] rfl (xX11_seenLine_b75 x s0 μ Q J19  hJ19 h)
  · have h := h.2 k21
    refine x_iload_n 0 rfl dX11_seenLine_62 ?_
    obtain ⟨c48, h⟩ := h
    refine x_ifge (tgt := 75) c48  dX11_seenLine_63 (by decide) (fun k49 => ?_) (fun k49 => ?_)
    · have h := h.1 k49
      exact x_sub [1, 0] rfl (xX11_seenLine_b75 x s0 μ Q J19  hJ19 h)
    · have h := h.2 k49
      refine x_aload_n 1 rfl dX11_seenLine_66 ?_
      refine x_iconst dX11_seenLine_67 ?_
      refine x_aload_n 1 rfl dX11_seenLine_68 ?_
      refine x_getI (j := 4) ly260 (by decide) rfl rfl (by decide) inT11 fl_X11_93 dX11_seenLine_69 (fun r50 => ?_)
      refine x_callVv (As := [iV 2, iV (μ 260 4)]) (rest := []) cal_X11_wrong ins_X11_wrong sel_X11_wrong ly260 (by decide) rfl (xX11_wrong x 2 (μ 260 4) _ _ ⟨by decide, by decide⟩ r50 h) rfl ml_X11_139 (xRoom (Nat.le_of_ble_eq_true rfl)) (Nat.le_of_ble_eq_true rfl) dX11_seenLine_72 (fun μ51 n52 h => ?_)
      have h := h n52
      exact x_sub [1, 0] rfl (xX11_seenLine_b75 x s0 μ51 Q J19  hJ19 h)
set_option maxRecDepth 100000 in
set_option maxHeartbeats 4000000 in
theorem xX11_seenLine (x : xX)  (μ : xM) (Q : xM → Prop)  (h : tX11_seenLine  μ Q) : xMet x 4 yX11_seenLine cX11_seenLine 3 none [.ref (x.2.2.1 + 260)] μ (xQv x Q) := by
  refine xMet_of (by decide +kernel) (Nat.le_of_ble_eq_true rfl) ?_
  show xW x (xRm 4, RX11, cX11_seenLine, 3, none, fun _ _ => True) (xQv x Q) 0 [(0, .ref (x.2.2.1 + 260))] [] μ
  refine x_ran (fun n0 => ?_)
  have h := h n0 
  refine x_aload_n 0 rfl dX11_seenLine_0 ?_
  refine x_getI (j := 13) ly260 (by decide) rfl rfl (by decide) inT11 fl_X11_112 dX11_seenLine_1 (fun r1 => ?_)
  refine x_ifeq (tgt := 8) r1  dX11_seenLine_4 (by decide) (fun k2 => ?_) (fun k2 => ?_)
  · have h := h.1 k2
    refine x_aload_n 0 rfl dX11_seenLine_8 ?_
    refine x_getR (j := 16) (r := 264) ly260 (by decide) rfl rfl (by decide) inT11 fl_X11_23 dX11_seenLine_9 ?_
    refine x_sipush dX11_seenLine_12 (by decide) ?_
    refine x_iconst dX11_seenLine_15 ?_
    refine x_iast ly264 (by decide) (by decide) ⟨by decide, by decide⟩ ⟨by decide, by decide⟩ (by decide) dX11_seenLine_16 (fun μ3 e5 n4 => ?_)
    have h := h μ3 e5 n4
    refine x_iconst dX11_seenLine_17 ?_
    refine x_istore_n [(1, iV 1), (0, .ref (x.2.2.1 + 260))] dX11_seenLine_18 (show 1 < 3 by decide) rfl ?_
    refine x_sub [1, 0] rfl ?_
    refine x_loop1 (fun l1_6 => [(0, .ref (x.2.2.1 + 260)), (1, iV l1_6)]) h (fun J19 l1_6 μ7 hJ19 h n8 => ?_)
    refine x_iload_n 1 rfl dX11_seenLine_19 ?_
    obtain ⟨c9, h⟩ := h
    refine x_ifeq (tgt := 151) c9  dX11_seenLine_20 (by decide) (fun k10 => ?_) (fun k10 => ?_)
    · have h := h.1 k10
      exact x_vret h rfl dX11_seenLine_151
    · have h := h.2 k10
      refine x_aload_n 0 rfl dX11_seenLine_23 ?_
      refine x_callVv (As := []) (rest := []) cal_X11_mustWord ins_X11_mustWord sel_X11_mustWord ly260 (by decide) rfl (xX11_mustWord x  _ _  h) rfl ml_X11_222 (xRoom (Nat.le_of_ble_eq_true rfl)) (Nat.le_of_ble_eq_true rfl) dX11_seenLine_24 (fun μ11 n12 h => ?_)
      have h := h n12
      refine x_aload_n 0 rfl dX11_seenLine_27 ?_
      refine x_getI (j := 13) ly260 (by decide) rfl rfl (by decide) inT11 fl_X11_112 dX11_seenLine_28 (fun r13 => ?_)
      refine x_ifeq (tgt := 38) r13  dX11_seenLine_31 (by decide) (fun k14 => ?_) (fun k14 => ?_)
      · have h := h.1 k14
        refine x_aload_n 0 rfl dX11_seenLine_38 ?_
        refine x_aload_n 0 rfl dX11_seenLine_39 ?_
        refine x_getR (j := 16) (r := 264) ly260 (by decide) rfl rfl (by decide) inT11 fl_X11_23 dX11_seenLine_40 ?_
        refine x_iconst dX11_seenLine_43 ?_
        refine x_iald ly264 (by decide) (by decide) ⟨by decide, by decide⟩ (by decide) dX11_seenLine_44 (fun r15 => ?_)
        refine x_bipush dX11_seenLine_45 (by decide) ?_
        refine x_bipush dX11_seenLine_47 (by decide) ?_
        refine x_bipush dX11_seenLine_49 (by decide) ?_
        refine x_callVi (As := [iV (μ11 264 3), iV 7, iV 31, iV 6]) (rest := []) cal_X11_find ins_X11_find sel_X11_find ly260 (by decide) rfl (xX11_find x (μ11 264 3) 7 31 6 _ _ r15 ⟨by decide, by decide⟩ ⟨by decide, by decide⟩ ⟨by decide, by decide⟩ h) rfl ml_X11_225 (xRoom (Nat.le_of_ble_eq_true rfl)) (Nat.le_of_ble_eq_true rfl) dX11_seenLine_51 (fun r18 μ16 i19 n17 h => ?_)
        have h := h i19 n17
        exact x_sub [0] rfl (xX11_seenLine_b54 x r18 μ16 Q J19  hJ19 h)
      · have h := h.2 k14
        refine x_iconst dX11_seenLine_34 ?_
        refine x_goto (tgt := 54) dX11_seenLine_35 (by decide) ?_
        exact x_sub [0] rfl (xX11_seenLine_b54 x (-1) μ11 Q J19  hJ19 h)
  · have h := h.2 k2
    exact x_vret h rfl dX11_seenLine_7
set_option maxRecDepth 100000 in
set_option maxHeartbeats 4000000 in
theorem xX11_readLine_b134 (x : xX)  (s2 : Int) (μ : xM) (Q : xM → Prop)    (h : tX11_readLine_b134  s2 μ Q ) : xW x (xRm 10, RX11, cX11_readLine, 1, none, fun _ _ => True) (xQv x Q) 134 [(0, .ref (x.2.2.1 + 260))] [iV s2, .ref (x.2.2.2.1 12), .ref (x.2.2.1 + 260)] μ := by
  refine x_ran (fun n0 => ?_)
  have h := h n0
  refine x_iconst dX11_readLine_134 ?_
  obtain ⟨c32, h⟩ := h
  refine x_callVz (As := [.ref (x.2.2.2.1 12), iV s2, iV 3]) (rest := []) cal_X11_begins ins_X11_begins sel_X11_begins ly260 (by decide) rfl (xX11_begins x 12 s2 3 _ _ (by decide) c32 ⟨by decide, by decide⟩ h) rfl ml_X11_179 (xRoom (Nat.le_of_ble_eq_true rfl)) (Nat.le_of_ble_eq_true rfl) dX11_readLine_135 (fun r35 μ33 i36 n34 h => ?_)
  have h := h i36 n34
  refine x_ifeq (tgt := 148) (xIz i36)  dX11_readLine_138 (by decide) (fun k37 => ?_) (fun k37 => ?_)
  · have h := h.1 k37
    refine x_aload_n 0 rfl dX11_readLine_148 ?_
    refine x_iconst dX11_readLine_149 ?_
    refine x_aload_n 0 rfl dX11_readLine_150 ?_
    refine x_getI (j := 4) ly260 (by decide) rfl rfl (by decide) inT11 fl_X11_93 dX11_readLine_151 (fun r38 => ?_)
    refine x_callVv (As := [iV 1, iV (μ33 260 4)]) (rest := []) cal_X11_wrong ins_X11_wrong sel_X11_wrong ly260 (by decide) rfl (xX11_wrong x 1 (μ33 260 4) _ _ ⟨by decide, by decide⟩ r38 h) rfl ml_X11_139 (xRoom (Nat.le_of_ble_eq_true rfl)) (Nat.le_of_ble_eq_true rfl) dX11_readLine_154 (fun μ39 n40 h => ?_)
    have h := h n40
    exact x_vret h rfl dX11_readLine_157
  · have h := h.2 (xz1 i36 k37)
    refine x_aload_n 0 rfl dX11_readLine_141 ?_
    refine x_callVv (As := []) (rest := []) cal_X11_seenLine ins_X11_seenLine sel_X11_seenLine ly260 (by decide) rfl (xX11_seenLine x  _ _  h) rfl ml_X11_203 (xRoom (Nat.le_of_ble_eq_true rfl)) (Nat.le_of_ble_eq_true rfl) dX11_readLine_142 (fun μ41 n42 h => ?_)
    have h := h n42
    refine x_goto (tgt := 157) dX11_readLine_145 (by decide) ?_
    exact x_vret h rfl dX11_readLine_157
set_option maxRecDepth 100000 in
set_option maxHeartbeats 4000000 in
theorem xX11_readLine_b101 (x : xX)  (s2 : Int) (μ : xM) (Q : xM → Prop)    (h : tX11_readLine_b101  s2 μ Q ) : xW x (xRm 10, RX11, cX11_readLine, 1, none, fun _ _ => True) (xQv x Q) 101 [(0, .ref (x.2.2.1 + 260))] [iV s2, .ref (x.2.2.2.1 11), .ref (x.2.2.1 + 260)] μ := by
  refine x_ran (fun n0 => ?_)
  have h := h n0
  refine x_iconst dX11_readLine_101 ?_
  obtain ⟨c24, h⟩ := h
  refine x_callVz (As := [.ref (x.2.2.2.1 11), iV s2, iV 5]) (rest := []) cal_X11_begins ins_X11_begins sel_X11_begins ly260 (by decide) rfl (xX11_begins x 11 s2 5 _ _ (by decide) c24 ⟨by decide, by decide⟩ h) rfl ml_X11_179 (xRoom (Nat.le_of_ble_eq_true rfl)) (Nat.le_of_ble_eq_true rfl) dX11_readLine_102 (fun r27 μ25 i28 n26 h => ?_)
  have h := h i28 n26
  refine x_ifeq (tgt := 115) (xIz i28)  dX11_readLine_105 (by decide) (fun k29 => ?_) (fun k29 => ?_)
  · have h := h.1 k29
    refine x_aload_n 0 rfl dX11_readLine_115 ?_
    refine x_ldcS 25 (i := 12) rfl dX11_readLine_116 ?_
    refine x_aload_n 0 rfl dX11_readLine_118 ?_
    refine x_getR (j := 16) (r := 264) ly260 (by decide) rfl rfl (by decide) inT11 fl_X11_23 dX11_readLine_119 ?_
    refine x_sipush dX11_readLine_122 (by decide) ?_
    refine x_iald ly264 (by decide) (by decide) ⟨by decide, by decide⟩ (by decide) dX11_readLine_125 (fun r30 => ?_)
    refine x_ifne (tgt := 133) r30  dX11_readLine_126 (by decide) (fun k31 => ?_) (fun k31 => ?_)
    · have h := h.1 k31
      refine x_iconst dX11_readLine_133 ?_
      exact x_sub [0] rfl (xX11_readLine_b134 x 0 μ25 Q   h)
    · have h := h.2 k31
      refine x_iconst dX11_readLine_129 ?_
      refine x_goto (tgt := 134) dX11_readLine_130 (by decide) ?_
      exact x_sub [0] rfl (xX11_readLine_b134 x 1 μ25 Q   h)
  · have h := h.2 (xz1 i28 k29)
    refine x_aload_n 0 rfl dX11_readLine_108 ?_
    refine x_callVv (As := []) (rest := []) cal_X11_likelyLine ins_X11_likelyLine sel_X11_likelyLine ly260 (by decide) rfl (xX11_likelyLine x  _ _  h) rfl ml_X11_198 (xRoom (Nat.le_of_ble_eq_true rfl)) (Nat.le_of_ble_eq_true rfl) dX11_readLine_109 (fun μ43 n44 h => ?_)
    have h := h n44
    refine x_goto (tgt := 157) dX11_readLine_112 (by decide) ?_
    exact x_vret h rfl dX11_readLine_157
set_option maxRecDepth 100000 in
set_option maxHeartbeats 4000000 in
theorem xX11_readLine_b50 (x : xX)  (s2 : Int) (μ : xM) (Q : xM → Prop)    (h : tX11_readLine_b50  s2 μ Q ) : xW x (xRm 10, RX11, cX11_readLine, 1, none, fun _ _ => True) (xQv x Q) 50 [(0, .ref (x.2.2.1 + 260))] [iV s2, .ref (x.2.2.2.1 7), .ref (x.2.2.1 + 260)] μ := by
  refine x_ran (fun n0 => ?_)
  have h := h n0
  refine x_iconst dX11_readLine_50 ?_
  obtain ⟨c11, h⟩ := h
  refine x_callVz (As := [.ref (x.2.2.2.1 7), iV s2, iV 5]) (rest := []) cal_X11_begins ins_X11_begins sel_X11_begins ly260 (by decide) rfl (xX11_begins x 7 s2 5 _ _ (by decide) c11 ⟨by decide, by decide⟩ h) rfl ml_X11_179 (xRoom (Nat.le_of_ble_eq_true rfl)) (Nat.le_of_ble_eq_true rfl) dX11_readLine_51 (fun r14 μ12 i15 n13 h => ?_)
  have h := h i15 n13
  refine x_ifeq (tgt := 64) (xIz i15)  dX11_readLine_54 (by decide) (fun k16 => ?_) (fun k16 => ?_)
  · have h := h.1 k16
    refine x_aload_n 0 rfl dX11_readLine_64 ?_
    refine x_ldcS 23 (i := 10) rfl dX11_readLine_65 ?_
    refine x_iconst dX11_readLine_67 ?_
    refine x_iconst dX11_readLine_68 ?_
    refine x_callVz (As := [.ref (x.2.2.2.1 10), iV 1, iV 1]) (rest := []) cal_X11_begins ins_X11_begins sel_X11_begins ly260 (by decide) rfl (xX11_begins x 10 1 1 _ _ (by decide) (Or.inr rfl) ⟨by decide, by decide⟩ h) rfl ml_X11_179 (xRoom (Nat.le_of_ble_eq_true rfl)) (Nat.le_of_ble_eq_true rfl) dX11_readLine_69 (fun r19 μ17 i20 n18 h => ?_)
    have h := h i20 n18
    refine x_ifeq (tgt := 82) (xIz i20)  dX11_readLine_72 (by decide) (fun k21 => ?_) (fun k21 => ?_)
    · have h := h.1 k21
      refine x_aload_n 0 rfl dX11_readLine_82 ?_
      refine x_ldcS 24 (i := 11) rfl dX11_readLine_83 ?_
      refine x_aload_n 0 rfl dX11_readLine_85 ?_
      refine x_getR (j := 16) (r := 264) ly260 (by decide) rfl rfl (by decide) inT11 fl_X11_23 dX11_readLine_86 ?_
      refine x_iconst dX11_readLine_89 ?_
      refine x_iald ly264 (by decide) (by decide) ⟨by decide, by decide⟩ (by decide) dX11_readLine_90 (fun r22 => ?_)
      refine x_bipush dX11_readLine_91 (by decide) ?_
      refine x_icmpge (tgt := 100) r22 ⟨by decide, by decide⟩ dX11_readLine_93 (by decide) (fun k23 => ?_) (fun k23 => ?_)
      · have h := h.1 k23
        refine x_iconst dX11_readLine_100 ?_
        exact x_sub [0] rfl (xX11_readLine_b101 x 0 μ17 Q   h)
      · have h := h.2 k23
        refine x_iconst dX11_readLine_96 ?_
        refine x_goto (tgt := 101) dX11_readLine_97 (by decide) ?_
        exact x_sub [0] rfl (xX11_readLine_b101 x 1 μ17 Q   h)
    · have h := h.2 (xz1 i20 k21)
      refine x_aload_n 0 rfl dX11_readLine_75 ?_
      refine x_callVv (As := []) (rest := []) cal_X11_guestLine ins_X11_guestLine sel_X11_guestLine ly260 (by decide) rfl (xX11_guestLine x  _ _  h) rfl ml_X11_193 (xRoom (Nat.le_of_ble_eq_true rfl)) (Nat.le_of_ble_eq_true rfl) dX11_readLine_76 (fun μ45 n46 h => ?_)
      have h := h n46
      refine x_goto (tgt := 157) dX11_readLine_79 (by decide) ?_
      exact x_vret h rfl dX11_readLine_157
  · have h := h.2 (xz1 i15 k16)
    refine x_aload_n 0 rfl dX11_readLine_57 ?_
    refine x_callVv (As := []) (rest := []) cal_X11_wordLine ins_X11_wordLine sel_X11_wordLine ly260 (by decide) rfl (xX11_wordLine x  _ _  h) rfl ml_X11_188 (xRoom (Nat.le_of_ble_eq_true rfl)) (Nat.le_of_ble_eq_true rfl) dX11_readLine_58 (fun μ47 n48 h => ?_)
    have h := h n48
    refine x_goto (tgt := 157) dX11_readLine_61 (by decide) ?_
    exact x_vret h rfl dX11_readLine_157
set_option maxRecDepth 100000 in
set_option maxHeartbeats 4000000 in
theorem xX11_readLine_b17 (x : xX)  (s2 : Int) (μ : xM) (Q : xM → Prop)    (h : tX11_readLine_b17  s2 μ Q ) : xW x (xRm 10, RX11, cX11_readLine, 1, none, fun _ _ => True) (xQv x Q) 17 [(0, .ref (x.2.2.1 + 260))] [iV s2, .ref (x.2.2.2.1 0), .ref (x.2.2.1 + 260)] μ := by
  refine x_ran (fun n0 => ?_)
  have h := h n0
  refine x_iconst dX11_readLine_17 ?_
  obtain ⟨c3, h⟩ := h
  refine x_callVz (As := [.ref (x.2.2.2.1 0), iV s2, iV 3]) (rest := []) cal_X11_begins ins_X11_begins sel_X11_begins ly260 (by decide) rfl (xX11_begins x 0 s2 3 _ _ (by decide) c3 ⟨by decide, by decide⟩ h) rfl ml_X11_179 (xRoom (Nat.le_of_ble_eq_true rfl)) (Nat.le_of_ble_eq_true rfl) dX11_readLine_18 (fun r6 μ4 i7 n5 h => ?_)
  have h := h i7 n5
  refine x_ifeq (tgt := 31) (xIz i7)  dX11_readLine_21 (by decide) (fun k8 => ?_) (fun k8 => ?_)
  · have h := h.1 k8
    refine x_aload_n 0 rfl dX11_readLine_31 ?_
    refine x_ldcS 20 (i := 7) rfl dX11_readLine_32 ?_
    refine x_aload_n 0 rfl dX11_readLine_34 ?_
    refine x_getR (j := 16) (r := 264) ly260 (by decide) rfl rfl (by decide) inT11 fl_X11_23 dX11_readLine_35 ?_
    refine x_iconst dX11_readLine_38 ?_
    refine x_iald ly264 (by decide) (by decide) ⟨by decide, by decide⟩ (by decide) dX11_readLine_39 (fun r9 => ?_)
    refine x_bipush dX11_readLine_40 (by decide) ?_
    refine x_icmpge (tgt := 49) r9 ⟨by decide, by decide⟩ dX11_readLine_42 (by decide) (fun k10 => ?_) (fun k10 => ?_)
    · have h := h.1 k10
      refine x_iconst dX11_readLine_49 ?_
      exact x_sub [0] rfl (xX11_readLine_b50 x 0 μ4 Q   h)
    · have h := h.2 k10
      refine x_iconst dX11_readLine_45 ?_
      refine x_goto (tgt := 50) dX11_readLine_46 (by decide) ?_
      exact x_sub [0] rfl (xX11_readLine_b50 x 1 μ4 Q   h)
  · have h := h.2 (xz1 i7 k8)
    refine x_aload_n 0 rfl dX11_readLine_24 ?_
    refine x_callVv (As := []) (rest := []) cal_X11_innLine ins_X11_innLine sel_X11_innLine ly260 (by decide) rfl (xX11_innLine x  _ _  h) rfl ml_X11_183 (xRoom (Nat.le_of_ble_eq_true rfl)) (Nat.le_of_ble_eq_true rfl) dX11_readLine_25 (fun μ49 n50 h => ?_)
    have h := h n50
    refine x_goto (tgt := 157) dX11_readLine_28 (by decide) ?_
    exact x_vret h rfl dX11_readLine_157
set_option maxRecDepth 100000 in
set_option maxHeartbeats 4000000 in
theorem xX11_readLine (x : xX)  (μ : xM) (Q : xM → Prop)  (h : tX11_readLine  μ Q) : xMet x 10 yX11_readLine cX11_readLine 1 none [.ref (x.2.2.1 + 260)] μ (xQv x Q) := by
  refine xMet_of (by decide +kernel) (Nat.le_of_ble_eq_true rfl) ?_
  show xW x (xRm 10, RX11, cX11_readLine, 1, none, fun _ _ => True) (xQv x Q) 0 [(0, .ref (x.2.2.1 + 260))] [] μ
  refine x_ran (fun n0 => ?_)
  have h := h n0 
  refine x_aload_n 0 rfl dX11_readLine_0 ?_
  refine x_ldcS 13 (i := 0) rfl dX11_readLine_1 ?_
  refine x_aload_n 0 rfl dX11_readLine_3 ?_
  refine x_getR (j := 16) (r := 264) ly260 (by decide) rfl rfl (by decide) inT11 fl_X11_23 dX11_readLine_4 ?_
  refine x_iconst dX11_readLine_7 ?_
  refine x_iald ly264 (by decide) (by decide) ⟨by decide, by decide⟩ (by decide) dX11_readLine_8 (fun r1 => ?_)
  refine x_ifne (tgt := 16) r1  dX11_readLine_9 (by decide) (fun k2 => ?_) (fun k2 => ?_)
  · have h := h.1 k2
    refine x_iconst dX11_readLine_16 ?_
    exact x_sub [0] rfl (xX11_readLine_b17 x 0 μ Q   h)
  · have h := h.2 k2
    refine x_iconst dX11_readLine_12 ?_
    refine x_goto (tgt := 17) dX11_readLine_13 (by decide) ?_
    exact x_sub [0] rfl (xX11_readLine_b17 x 1 μ Q   h)
