set_option maxRecDepth 100000 in
set_option maxHeartbeats 4000000 in
theorem xJ7_fill_53178 (x : xX) (p1 : Nat) (p1n : Nat) (p2 : Int) (μ : xM) (Q : xM → Prop) (hp1 : lay p1 = (1, p1n, []) ∧ p1 < 281 ∧ p1n ≤ 200000) (hp2 : xIn p2) (h : tJ7_fill_53178 p1 p1n p2 μ Q) : xMet x 1 yJ7_fill_53178 cJ7_fill_53178 4 none [.ref (x.2.2.1 + p1), iV p2] μ (xQv x Q) := by
  refine xMet_of (by decide +kernel) (Nat.le_of_ble_eq_true rfl) ?_
  show xW x (xRm 1, RJ7, cJ7_fill_53178, 4, none, fun _ _ => True) (xQv x Q) 0 [(0, .ref (x.2.2.1 + p1)), (1, iV p2)] [] μ
  refine x_ran (fun n0 => ?_)
  have h := h n0 hp2
  refine x_iconst dJ7_fill_53178_0 ?_
  refine x_istore_n [(2, iV 0), (0, .ref (x.2.2.1 + p1)), (1, iV p2)] dJ7_fill_53178_1 (show 2 < 4 by decide) rfl ?_
  refine x_aload_n 1 rfl dJ7_fill_53178_2 ?_
  refine x_alen hp1.1 hp1.2.1 dJ7_fill_53178_3 ?_
  refine x_istore_n [(3, iV (p1n : Int)), (2, iV 0), (0, .ref (x.2.2.1 + p1)), (1, iV p2)] dJ7_fill_53178_4 (show 3 < 4 by decide) rfl ?_
  refine x_sub [2, 3, 1, 0] rfl ?_
  refine x_loop1 (fun l2_1 => [(0, .ref (x.2.2.1 + p1)), (1, iV p2), (2, iV l2_1), (3, iV (p1n : Int))]) h (fun J5 l2_1 μ2 hJ5 h n3 => ?_)
  refine x_iload_n 2 rfl dJ7_fill_53178_5 ?_
  refine x_iload_n 3 rfl dJ7_fill_53178_6 ?_
  obtain ⟨c4, h⟩ := h
  refine x_icmpge (tgt := 20) c4 ⟨by omega, by have := hp1.2.2; omega⟩ dJ7_fill_53178_7 (by decide) (fun k5 => ?_) (fun k5 => ?_)
  · have h := h.1 k5
    exact x_vret h rfl dJ7_fill_53178_20
  · have h := h.2 k5
    refine x_aload_n 0 rfl dJ7_fill_53178_10 ?_
    refine x_iload_n 2 rfl dJ7_fill_53178_11 ?_
    refine x_iload_n 1 rfl dJ7_fill_53178_12 ?_
    obtain ⟨c6, h⟩ := h
    refine x_iast hp1.1 c6.1 c6.2 (xIb (n := p1n) c6 hp1.2.2) hp2 hp1.2.1 dJ7_fill_53178_13 (fun μ7 e9 n8 => ?_)
    have h := h μ7 e9 n8
    refine x_iinc 2 rfl [(2, iV (l2_1 + 1)), (0, .ref (x.2.2.1 + p1)), (1, iV p2), (3, iV (p1n : Int))] dJ7_fill_53178_14 (show 2 < 4 by decide) rfl ?_
    refine x_goto (tgt := 5) dJ7_fill_53178_17 (by decide) ?_
    exact x_sub [1, 2, 0, 3] rfl (hJ5 _ _ h)
set_option maxRecDepth 100000 in
set_option maxHeartbeats 4000000 in
theorem xJ6_bitCount_0f7a4 (x : xX) (p1 : Int) (μ : xM) (Q : Int → xM → Prop) (hp1 : xIn p1) (h : tJ6_bitCount_0f7a4 p1 μ Q) : xMet x 1 yJ6_bitCount_0f7a4 cJ6_bitCount_0f7a4 1 (some .int) [iV p1] μ (xQi x Q) := by
  refine xMet_of (by decide +kernel) (Nat.le_of_ble_eq_true rfl) ?_
  show xW x (xRm 1, RJ6, cJ6_bitCount_0f7a4, 1, (some .int), fun _ _ => True) (xQi x Q) 0 [(0, iV p1)] [] μ
  refine x_ran (fun n0 => ?_)
  have h := h n0 hp1
  refine x_iload_n 0 rfl dJ6_bitCount_0f7a4_0 ?_
  refine x_iload_n 0 rfl dJ6_bitCount_0f7a4_1 ?_
  refine x_iconst dJ6_bitCount_0f7a4_2 ?_
  refine x_iushr dJ6_bitCount_0f7a4_3 ?_
  refine x_ldcw (n := 1431655765) cn_J6_265 dJ6_bitCount_0f7a4_4 ?_
  refine x_iand dJ6_bitCount_0f7a4_7 ?_
  refine x_isub dJ6_bitCount_0f7a4_8 ?_
  refine x_istore_n [(0, iV (p1 - (xAnd (xUshr p1 1) 1431655765)))] dJ6_bitCount_0f7a4_9 (show 0 < 1 by decide) rfl ?_
  refine x_iload_n 0 rfl dJ6_bitCount_0f7a4_10 ?_
  refine x_ldcw (n := 858993459) cn_J6_266 dJ6_bitCount_0f7a4_11 ?_
  refine x_iand dJ6_bitCount_0f7a4_14 ?_
  refine x_iload_n 0 rfl dJ6_bitCount_0f7a4_15 ?_
  refine x_iconst dJ6_bitCount_0f7a4_16 ?_
  refine x_iushr dJ6_bitCount_0f7a4_17 ?_
  refine x_ldcw (n := 858993459) cn_J6_266 dJ6_bitCount_0f7a4_18 ?_
  refine x_iand dJ6_bitCount_0f7a4_21 ?_
  refine x_iadd dJ6_bitCount_0f7a4_22 ?_
  refine x_istore_n [(0, iV ((xAnd (p1 - (xAnd (xUshr p1 1) 1431655765)) 858993459) + (xAnd (xUshr (p1 - (xAnd (xUshr p1 1) 1431655765)) 2) 858993459)))] dJ6_bitCount_0f7a4_23 (show 0 < 1 by decide) rfl ?_
  refine x_iload_n 0 rfl dJ6_bitCount_0f7a4_24 ?_
  refine x_iload_n 0 rfl dJ6_bitCount_0f7a4_25 ?_
  refine x_iconst dJ6_bitCount_0f7a4_26 ?_
  refine x_iushr dJ6_bitCount_0f7a4_27 ?_
  refine x_iadd dJ6_bitCount_0f7a4_28 ?_
  refine x_ldcw (n := 252645135) cn_J6_267 dJ6_bitCount_0f7a4_29 ?_
  refine x_iand dJ6_bitCount_0f7a4_32 ?_
  refine x_istore_n [(0, iV (xAnd (((xAnd (p1 - (xAnd (xUshr p1 1) 1431655765)) 858993459) + (xAnd (xUshr (p1 - (xAnd (xUshr p1 1) 1431655765)) 2) 858993459)) + (xUshr ((xAnd (p1 - (xAnd (xUshr p1 1) 1431655765)) 858993459) + (xAnd (xUshr (p1 - (xAnd (xUshr p1 1) 1431655765)) 2) 858993459)) 4)) 252645135))] dJ6_bitCount_0f7a4_33 (show 0 < 1 by decide) rfl ?_
  refine x_iload_n 0 rfl dJ6_bitCount_0f7a4_34 ?_
  refine x_iload_n 0 rfl dJ6_bitCount_0f7a4_35 ?_
  refine x_bipush dJ6_bitCount_0f7a4_36 (by decide) ?_
  refine x_iushr dJ6_bitCount_0f7a4_38 ?_
  refine x_iadd dJ6_bitCount_0f7a4_39 ?_
  refine x_istore_n [(0, iV ((xAnd (((xAnd (p1 - (xAnd (xUshr p1 1) 1431655765)) 858993459) + (xAnd (xUshr (p1 - (xAnd (xUshr p1 1) 1431655765)) 2) 858993459)) + (xUshr ((xAnd (p1 - (xAnd (xUshr p1 1) 1431655765)) 858993459) + (xAnd (xUshr (p1 - (xAnd (xUshr p1 1) 1431655765)) 2) 858993459)) 4)) 252645135) + (xUshr (xAnd (((xAnd (p1 - (xAnd (xUshr p1 1) 1431655765)) 858993459) + (xAnd (xUshr (p1 - (xAnd (xUshr p1 1) 1431655765)) 2) 858993459)) + (xUshr ((xAnd (p1 - (xAnd (xUshr p1 1) 1431655765)) 858993459) + (xAnd (xUshr (p1 - (xAnd (xUshr p1 1) 1431655765)) 2) 858993459)) 4)) 252645135) 8)))] dJ6_bitCount_0f7a4_40 (show 0 < 1 by decide) rfl ?_
  refine x_iload_n 0 rfl dJ6_bitCount_0f7a4_41 ?_
  refine x_iload_n 0 rfl dJ6_bitCount_0f7a4_42 ?_
  refine x_bipush dJ6_bitCount_0f7a4_43 (by decide) ?_
  refine x_iushr dJ6_bitCount_0f7a4_45 ?_
  refine x_iadd dJ6_bitCount_0f7a4_46 ?_
  refine x_istore_n [(0, iV (((xAnd (((xAnd (p1 - (xAnd (xUshr p1 1) 1431655765)) 858993459) + (xAnd (xUshr (p1 - (xAnd (xUshr p1 1) 1431655765)) 2) 858993459)) + (xUshr ((xAnd (p1 - (xAnd (xUshr p1 1) 1431655765)) 858993459) + (xAnd (xUshr (p1 - (xAnd (xUshr p1 1) 1431655765)) 2) 858993459)) 4)) 252645135) + (xUshr (xAnd (((xAnd (p1 - (xAnd (xUshr p1 1) 1431655765)) 858993459) + (xAnd (xUshr (p1 - (xAnd (xUshr p1 1) 1431655765)) 2) 858993459)) + (xUshr ((xAnd (p1 - (xAnd (xUshr p1 1) 1431655765)) 858993459) + (xAnd (xUshr (p1 - (xAnd (xUshr p1 1) 1431655765)) 2) 858993459)) 4)) 252645135) 8)) + (xUshr ((xAnd (((xAnd (p1 - (xAnd (xUshr p1 1) 1431655765)) 858993459) + (xAnd (xUshr (p1 - (xAnd (xUshr p1 1) 1431655765)) 2) 858993459)) + (xUshr ((xAnd (p1 - (xAnd (xUshr p1 1) 1431655765)) 858993459) + (xAnd (xUshr (p1 - (xAnd (xUshr p1 1) 1431655765)) 2) 858993459)) 4)) 252645135) + (xUshr (xAnd (((xAnd (p1 - (xAnd (xUshr p1 1) 1431655765)) 858993459) + (xAnd (xUshr (p1 - (xAnd (xUshr p1 1) 1431655765)) 2) 858993459)) + (xUshr ((xAnd (p1 - (xAnd (xUshr p1 1) 1431655765)) 858993459) + (xAnd (xUshr (p1 - (xAnd (xUshr p1 1) 1431655765)) 2) 858993459)) 4)) 252645135) 8)) 16)))] dJ6_bitCount_0f7a4_47 (show 0 < 1 by decide) rfl ?_
  refine x_iload_n 0 rfl dJ6_bitCount_0f7a4_48 ?_
  refine x_bipush dJ6_bitCount_0f7a4_49 (by decide) ?_
  refine x_iand dJ6_bitCount_0f7a4_51 ?_
  exact x_iret h (xAnd_in _ _) rfl dJ6_bitCount_0f7a4_52
