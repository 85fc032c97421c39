set_option maxRecDepth 100000 in
set_option maxHeartbeats 4000000 in
theorem xX10_trouble (x : xX)  (μ : xM) (Q : Int → xM → Prop)  (h : tX10_trouble  μ Q) : xMet x 1 yX10_trouble cX10_trouble 1 (some .int) [.ref (x.2.2.1 + 0)] μ (xQi x Q) := by
  refine xMet_of (by decide +kernel) (Nat.le_of_ble_eq_true rfl) ?_
  show xW x (1, RX10, cX10_trouble, 1, (some .int)) (xQi x Q) 0 [(0, .ref (x.2.2.1 + 0))] [] μ
  refine x_ran (fun n0 => ?_)
  have h := h n0 
  refine x_aload_n 0 rfl dX10_trouble_0 ?_
  refine x_getI (j := 18) ly0 (by decide) rfl rfl (by decide) inT10 fl_X10_146 dX10_trouble_1 (fun r1 => ?_)
  exact x_iret h r1 rfl dX10_trouble_4
