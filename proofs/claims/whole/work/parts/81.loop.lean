set_option maxRecDepth 100000 in
theorem sta_L_led : Cond.static yL_led ∈ xTb := tc6 151 rfl rfl
set_option maxRecDepth 100000 in
theorem cod_L_led : Cond.codeWith yL_led cL_led 4 (some .int) [(0, 9, 12, 13)] ∈ xTb := tc6 152 rfl rfl
theorem good_L_led : GoodIn xTb (va_wsS RL 197 yL_led (Cond.codeWith yL_led cL_led 4 (some .int) [(0, 9, 12, 13)] :: xTb)) := by
  have g : ∀ w ∈ xTb, w ∈ xTb ∧ ((w.onTables && w.keeps) = true ∨ ∃ ty, w = .arrayClass ty) := fun w hw => ⟨hw, good_of_word (List.mem_filter.mp hw).2⟩
  intro w hw
  rcases List.mem_append.mp hw with h | h
  · simp only [List.mem_cons, List.not_mem_nil, or_false] at h
    rcases h with rfl | rfl | rfl
    · exact g _ ml_L_197
    · exact g _ sta_L_led
    · exact g _ ini_L
  · rcases List.mem_cons.mp h with rfl | h
    · exact g _ cod_L_led
    · exact g _ h
set_option maxRecDepth 100000 in
set_option maxHeartbeats 4000000 in
theorem xl_42 (x : xX) (hst : x.1.stackTraces = false) (bS L : Nat) (xs : Nat → Int32) (cs : Nat × Nat) (Qf : List Frame → Array Value → State → State → Prop) (i : Int) (hi0 : 0 ≤ i) (hiL : i + 6 ≤ L) (hL : L ≤ 3072) (μ : xM) (K : xM → Prop) (hcs0 : cs.1 + 1 ≤ room_1.cells ∧ cs.2 + 10 ≤ room_1.slots) (hK : ∀ ν : xM, K ν → xG x (lY bS L xs x) (cs.1 + 1, cs.2 + 10) Qf 1413 [(0, .ref bS), (1, .ref (x.2.2.1 + 0)), (2, .ref (x.2.2.1 + 260)), (3, .ref (x.2.2.1 + 280)), (4, iV i)] [] ν) (h : tl_42 (scOf xs) i μ K) : xG x (lY bS L xs x) cs Qf 1319 [(0, .ref bS), (1, .ref (x.2.2.1 + 0)), (2, .ref (x.2.2.1 + 260)), (3, .ref (x.2.2.1 + 280)), (4, iV i)] [] μ := by
  have hi : xIn i := ⟨by omega, by omega⟩
  have aft : ∀ (k : Int) (ω : xM), xIn k → tl_42r (scOf xs) i K k ω → xG x (lY bS L xs x) (cs.1 + 1, cs.2 + 10) Qf 1330 [(0, .ref bS), (1, .ref (x.2.2.1 + 0)), (2, .ref (x.2.2.1 + 260)), (3, .ref (x.2.2.1 + 280)), (4, iV i)] [iV k] ω := by
    intro k ω hk h
    refine x_istore [(5, iV k), (0, .ref bS), (1, .ref (x.2.2.1 + 0)), (2, .ref (x.2.2.1 + 260)), (3, .ref (x.2.2.1 + 280)), (4, iV i)] dL_law_1330 (show 5 < 7 by decide) rfl ?_
    refine x_aload_n 3 rfl dL_law_1332 ?_
    refine x_aload_n 1 rfl dL_law_1333 ?_
    refine x_iload 5 rfl dL_law_1334 ?_
    refine x_iconst dL_law_1336 ?_
    refine x_iadd dL_law_1337 ?_
    refine x_scr (j := i + 1) (by omega) (by omega) ⟨by omega, by omega⟩ dL_law_1338 ?_
    refine x_callVi (As := [iV (scOf xs (i + 1))]) (rest := []) cal_X11_led ins_X11_led sel_X11_led ly260 (by decide) rfl (xX11_led x (scOf xs (i + 1)) _ _ (scOf_in _ _) h) rfl ml_L_202 ⟨Nat.le_of_ble_eq_true rfl, Nat.le_of_ble_eq_true rfl⟩ (Nat.le_of_ble_eq_true rfl) dL_law_1339 (fun b ω1 hb n1 h => ?_)
    have h := h hb n1
    refine x_istore [(6, iV b), (5, iV k), (0, .ref bS), (1, .ref (x.2.2.1 + 0)), (2, .ref (x.2.2.1 + 260)), (3, .ref (x.2.2.1 + 280)), (4, iV i)] dL_law_1342 (show 6 < 7 by decide) rfl ?_
    refine x_aload_n 4 rfl dL_law_1344 ?_
    refine x_callVi (As := []) (rest := []) cal_X11_thrown ins_X11_thrown sel_X11_thrown ly260 (by decide) rfl (xX11_thrown x _ _ h) rfl ml_L_203 ⟨Nat.le_of_ble_eq_true rfl, Nat.le_of_ble_eq_true rfl⟩ (Nat.le_of_ble_eq_true rfl) dL_law_1345 (fun t ω2 ht n2 h => ?_)
    obtain ⟨e1, e2, h⟩ := h ht n2
    refine x_iload 1 rfl dL_law_1348 ?_
    refine x_icmpeq (tgt := 1355) ht hk dL_law_1350 (by decide) (fun _ => ?_) (fun z => absurd e1 z)
    refine x_iload 1 rfl dL_law_1355 ?_
    refine x_ifne (tgt := 1372) hk dL_law_1357 (by decide) (fun _ => ?_) (fun k0 => ?_)
    · refine x_goto (tgt := 1413) dL_law_1372 (by decide) ?_
      refine x_sub [2, 3, 4, 5, 6] rfl ?_
      exact hK _ h
    · refine x_aload_n 5 rfl dL_law_1360 ?_
      refine x_iconst dL_law_1361 ?_
      refine x_lald ly280 (by decide) (by decide) ⟨by decide, by decide⟩ (by decide) dL_law_1362 (fun r9 => ?_)
      refine x_iload 0 rfl dL_law_1363 ?_
      refine x_i2l hb dL_law_1365 ?_
      refine x_lcmp r9 hb.il dL_law_1366 ?_
      refine x_ifeq (tgt := 1372) (xIcmp _ _) dL_law_1367 (by decide) (fun _ => ?_) (fun z => absurd (xcmp0 (e2 k0)) z)
      refine x_goto (tgt := 1413) dL_law_1372 (by decide) ?_
      refine x_sub [2, 3, 4, 5, 6] rfl ?_
      exact hK _ h
  refine x_aload_n 1 rfl dL_law_1319 ?_
  refine x_aload_n 0 rfl dL_law_1320 ?_
  refine x_iload 4 rfl dL_law_1321 ?_
  refine x_iconst dL_law_1323 ?_
  refine x_iadd dL_law_1324 ?_
  refine x_scr (j := i + 1) (by omega) (by omega) ⟨by omega, by omega⟩ dL_law_1325 ?_
  refine x_aload_n 3 rfl dL_law_1326 ?_
  intro p e s m args below meth c H locs ls hC hcs hR hS hlv
  obtain ⟨hx, hb, hr, hml, hown, hts, hlk, hU, hφ⟩ := hC
  have cw : vx_CSW room_1 s args RL 197 yL_led cL_led 4 (some .int) [(0, 9, 12, 13)] (Cond.codeWith yL_led cL_led 4 (some .int) [(0, 9, 12, 13)] :: xTb) rmB 1 6 3 := vx_cwSW 3 hts good_L_led rfl rfl rfl ⟨by decide +kernel, by decide +kernel, by decide +kernel⟩ ⟨by decide, by decide⟩
  have run := vx_runSW (As := [.ref (x.2.2.1 + 0), iV (scOf xs (i + 1)), .ref (x.2.2.1 + 280)]) (rest := []) (g := F0 m 1327 ls [.ref (x.2.2.1 + 280), iV (scOf xs (i + 1)), .ref (x.2.2.1 + 0)]) (locs := locs) (cells := cs.1) (slots := cs.2) (below := below) (e := e) (meth := meth) ⟨hx, hb, hml, hown, hts⟩ (xled2 x (scOf xs (i + 1)) μ (fun k ω => tl_42r (scOf xs) i K k ω) (scOf_in _ _) hst h) cw ⟨xPn_blind _ _ _, fun U hUh hW => ⟨rfl, by rw [hUh]; exact hR, xU_moved hU hS hUh hW, xN_moved hφ.2.2.2.2 hS hUh hW⟩⟩ rfl rfl (by rw [← hml]; exact hlv.1.trans hml.symm) rfl (lv_room (Nat.le_of_ble_eq_true rfl)) dL_law_1327 ⟨hcs0.1, by have := hcs0.2; omega⟩
  refine va_calli run hS (fun _ _ h => h) (fun _ h => h) (fun r u t H1 locs1 ht hvm hw hB _ _ hS1 => ?_)
  obtain ⟨v, rfl, hv, hq⟩ := hw
  have hR1 : xR x u H1 := by rw [← ht]; exact hB
  refine W.widen (k := cs.1 + 1) (n := cs.2 + 10) (Nat.le_refl _) (by omega) ?_
  exact aft v u hv hq p e s m args below meth c H1 locs1 ls ⟨hx, hb, hr, hml, hown, hts, hlk, hU, hφ⟩ hcs0 hR1 hS1 hlv
set_option maxRecDepth 100000 in
set_option maxHeartbeats 8000000 in
theorem xlaw_step (x : xX) (hst : x.1.stackTraces = false) (bS L : Nat) (xs : Nat → Int32) (cs : Nat × Nat) (Qf : List Frame → Array Value → State → State → Prop) (i : Int) (hi0 : 0 ≤ i) (hiN : i ≤ 4000) (hL : L ≤ 3072) (μ : xM) (K : xM → Prop) (hcs : cs.1 + 1 ≤ room_1.cells ∧ cs.2 + 10 ≤ room_1.slots) (hx1 : ¬ i + 6 ≤ L → xG x (lY bS L xs x) cs Qf 1419 [(0, .ref bS), (1, .ref (x.2.2.1 + 0)), (2, .ref (x.2.2.1 + 260)), (3, .ref (x.2.2.1 + 280)), (4, iV i)] [] μ) (h : i + 6 ≤ L → tlaw (scOf xs) i μ K) (hK : ∀ ν : xM, K ν → xG x (lY bS L xs x) (cs.1 + 1, cs.2 + 10) Qf 1413 [(0, .ref bS), (1, .ref (x.2.2.1 + 0)), (2, .ref (x.2.2.1 + 260)), (3, .ref (x.2.2.1 + 280)), (4, iV i)] [] ν) : xG x (lY bS L xs x) cs Qf 23 [(0, .ref bS), (1, .ref (x.2.2.1 + 0)), (2, .ref (x.2.2.1 + 260)), (3, .ref (x.2.2.1 + 280)), (4, iV i)] [] μ := by
  have hi : xIn i := ⟨by omega, by omega⟩
  have hK1 : ∀ ν : xM, K ν → xG x (lY bS L xs x) cs Qf 1413 [(0, .ref bS), (1, .ref (x.2.2.1 + 0)), (2, .ref (x.2.2.1 + 260)), (3, .ref (x.2.2.1 + 280)), (4, iV i)] [] ν := fun ν h => xG_widen (cs' := (cs.1 + 1, cs.2 + 10)) (by show cs.1 ≤ cs.1 + 1; omega) (by show cs.2 ≤ cs.2 + 10; omega) hcs (hK ν h)
  refine x_iload 4 rfl dL_law_23 ?_
  refine x_aload_n 0 rfl dL_law_25 ?_
  refine x_scl dL_law_26 ?_
  refine x_bipush dL_law_27 (by decide) ?_
  refine x_isub dL_law_29 ?_
  refine x_icmpgt (tgt := 1419) hi ⟨by omega, by omega⟩ dL_law_30 (by decide) (fun k => hx1 (by omega)) (fun k => ?_)
  have hiL : i + 6 ≤ L := by omega
  have h := h hiL
  refine x_aload_n 0 rfl dL_law_33 ?_
  refine x_iload 4 rfl dL_law_34 ?_
  refine x_scr (j := i) (by omega) (by omega) hi dL_law_36 ?_
  refine x_bipush dL_law_37 (by decide) ?_
  refine x_iand dL_law_39 ?_
  unfold tlaw at h
  by_cases k0 : xAnd (scOf xs i) 63 = 0
  · exact x_tabIn (tgt := 236) 0 (xAnd_in _ _) (by omega) (by decide) rfl (by decide) dL_law_40 (xl_0 x bS L xs cs Qf i hi0 hiL hL μ K hK1 (h.1 k0))
  by_cases k1 : xAnd (scOf xs i) 63 = 1
  · exact x_tabIn (tgt := 309) 1 (xAnd_in _ _) (by omega) (by decide) rfl (by decide) dL_law_40 (xl_1 x bS L xs cs Qf i hi0 hiL hL μ K hK1 (h.2.1 k1))
  by_cases k2 : xAnd (scOf xs i) 63 = 2
  · exact x_tabIn (tgt := 334) 2 (xAnd_in _ _) (by omega) (by decide) rfl (by decide) dL_law_40 (xl_2 x bS L xs cs Qf i hi0 hiL hL μ K hK1 (h.2.2.1 k2))
  by_cases k3 : xAnd (scOf xs i) 63 = 3
  · exact x_tabIn (tgt := 347) 3 (xAnd_in _ _) (by omega) (by decide) rfl (by decide) dL_law_40 (xl_3 x bS L xs cs Qf i hi0 hiL hL μ K hK1 (h.2.2.2.1 k3))
  by_cases k4 : xAnd (scOf xs i) 63 = 4
  · exact x_tabIn (tgt := 360) 4 (xAnd_in _ _) (by omega) (by decide) rfl (by decide) dL_law_40 (xl_4 x bS L xs cs Qf i hi0 hiL hL μ K hK1 (h.2.2.2.2.1 k4))
  by_cases k5 : xAnd (scOf xs i) 63 = 5
  · exact x_tabIn (tgt := 397) 5 (xAnd_in _ _) (by omega) (by decide) rfl (by decide) dL_law_40 (xl_5 x bS L xs cs Qf i hi0 hiL hL μ K hK1 (h.2.2.2.2.2.1 k5))
  by_cases k6 : xAnd (scOf xs i) 63 = 6
  · exact x_tabIn (tgt := 434) 6 (xAnd_in _ _) (by omega) (by decide) rfl (by decide) dL_law_40 (xl_6 x bS L xs cs Qf i hi0 hiL hL μ K hK1 (h.2.2.2.2.2.2.1 k6))
  by_cases k7 : xAnd (scOf xs i) 63 = 7
  · exact x_tabIn (tgt := 471) 7 (xAnd_in _ _) (by omega) (by decide) rfl (by decide) dL_law_40 (xl_7 x bS L xs cs Qf i hi0 hiL hL μ K hK1 (h.2.2.2.2.2.2.2.1 k7))
  by_cases k8 : xAnd (scOf xs i) 63 = 8
  · exact x_tabIn (tgt := 496) 8 (xAnd_in _ _) (by omega) (by decide) rfl (by decide) dL_law_40 (xl_8 x bS L xs cs Qf i hi0 hiL hL μ K hK1 (h.2.2.2.2.2.2.2.2.1 k8))
  by_cases k9 : xAnd (scOf xs i) 63 = 9
  · exact x_tabIn (tgt := 533) 9 (xAnd_in _ _) (by omega) (by decide) rfl (by decide) dL_law_40 (xl_9 x bS L xs cs Qf i hi0 hiL hL μ K hK1 (h.2.2.2.2.2.2.2.2.2.1 k9))
  by_cases k10 : xAnd (scOf xs i) 63 = 10
  · exact x_tabIn (tgt := 582) 10 (xAnd_in _ _) (by omega) (by decide) rfl (by decide) dL_law_40 (xl_10 x bS L xs cs Qf i hi0 hiL hL μ K hK1 (h.2.2.2.2.2.2.2.2.2.2.1 k10))
  by_cases k11 : xAnd (scOf xs i) 63 = 11
  · exact x_tabIn (tgt := 607) 11 (xAnd_in _ _) (by omega) (by decide) rfl (by decide) dL_law_40 (xl_11 x bS L xs cs Qf i hi0 hiL hL μ K hK1 (h.2.2.2.2.2.2.2.2.2.2.2.1 k11))
  by_cases k12 : xAnd (scOf xs i) 63 = 12
  · exact x_tabIn (tgt := 620) 12 (xAnd_in _ _) (by omega) (by decide) rfl (by decide) dL_law_40 (xl_12 x bS L xs cs Qf i hi0 hiL hL μ K hK1 (h.2.2.2.2.2.2.2.2.2.2.2.2.1 k12))
  by_cases k13 : xAnd (scOf xs i) 63 = 13
  · exact x_tabIn (tgt := 633) 13 (xAnd_in _ _) (by omega) (by decide) rfl (by decide) dL_law_40 (xl_13 x bS L xs cs Qf i hi0 hiL hL μ K hK1 (h.2.2.2.2.2.2.2.2.2.2.2.2.2.1 k13))
  by_cases k14 : xAnd (scOf xs i) 63 = 14
  · exact x_tabIn (tgt := 658) 14 (xAnd_in _ _) (by omega) (by decide) rfl (by decide) dL_law_40 (xl_14 x bS L xs cs Qf i hi0 hiL hL μ K hK1 (h.2.2.2.2.2.2.2.2.2.2.2.2.2.2.1 k14))
  by_cases k15 : xAnd (scOf xs i) 63 = 15
  · exact x_tabIn (tgt := 671) 15 (xAnd_in _ _) (by omega) (by decide) rfl (by decide) dL_law_40 (xl_15 x bS L xs cs Qf i hi0 hiL hL μ K hK1 (h.2.2.2.2.2.2.2.2.2.2.2.2.2.2.2.1 k15))
  by_cases k16 : xAnd (scOf xs i) 63 = 16
  · exact x_tabIn (tgt := 684) 16 (xAnd_in _ _) (by omega) (by decide) rfl (by decide) dL_law_40 (xl_16 x bS L xs cs Qf i hi0 hiL hL μ K hK1 (h.2.2.2.2.2.2.2.2.2.2.2.2.2.2.2.2.1 k16))
  by_cases k17 : xAnd (scOf xs i) 63 = 17
  · exact x_tabIn (tgt := 697) 17 (xAnd_in _ _) (by omega) (by decide) rfl (by decide) dL_law_40 (xl_17 x bS L xs cs Qf i hi0 hiL hL μ K hK1 (h.2.2.2.2.2.2.2.2.2.2.2.2.2.2.2.2.2.1 k17))
  by_cases k18 : xAnd (scOf xs i) 63 = 18
  · exact x_tabIn (tgt := 722) 18 (xAnd_in _ _) (by omega) (by decide) rfl (by decide) dL_law_40 (xl_18 x bS L xs cs Qf i hi0 hiL hL μ K hK1 (h.2.2.2.2.2.2.2.2.2.2.2.2.2.2.2.2.2.2.1 k18))
  by_cases k19 : xAnd (scOf xs i) 63 = 19
  · exact x_tabIn (tgt := 747) 19 (xAnd_in _ _) (by omega) (by decide) rfl (by decide) dL_law_40 (xl_19 x bS L xs cs Qf i hi0 hiL hL μ K hK1 (h.2.2.2.2.2.2.2.2.2.2.2.2.2.2.2.2.2.2.2.1 k19))
  by_cases k20 : xAnd (scOf xs i) 63 = 20
  · exact x_tabIn (tgt := 772) 20 (xAnd_in _ _) (by omega) (by decide) rfl (by decide) dL_law_40 (xl_20 x bS L xs cs Qf i hi0 hiL hL μ K hK1 (h.2.2.2.2.2.2.2.2.2.2.2.2.2.2.2.2.2.2.2.2.1 k20))
  by_cases k21 : xAnd (scOf xs i) 63 = 21
  · exact x_tabIn (tgt := 797) 21 (xAnd_in _ _) (by omega) (by decide) rfl (by decide) dL_law_40 (xl_21 x bS L xs cs Qf i hi0 hiL hL μ K hK1 (h.2.2.2.2.2.2.2.2.2.2.2.2.2.2.2.2.2.2.2.2.2.1 k21))
  by_cases k22 : xAnd (scOf xs i) 63 = 22
  · exact x_tabIn (tgt := 834) 22 (xAnd_in _ _) (by omega) (by decide) rfl (by decide) dL_law_40 (xl_22 x bS L xs cs Qf i hi0 hiL hL μ K hK1 (h.2.2.2.2.2.2.2.2.2.2.2.2.2.2.2.2.2.2.2.2.2.2.1 k22))
  by_cases k23 : xAnd (scOf xs i) 63 = 23
  · exact x_tabIn (tgt := 847) 23 (xAnd_in _ _) (by omega) (by decide) rfl (by decide) dL_law_40 (xl_23 x bS L xs cs Qf i hi0 hiL hL μ K hK1 (h.2.2.2.2.2.2.2.2.2.2.2.2.2.2.2.2.2.2.2.2.2.2.2.1 k23))
  by_cases k24 : xAnd (scOf xs i) 63 = 24
  · exact x_tabIn (tgt := 860) 24 (xAnd_in _ _) (by omega) (by decide) rfl (by decide) dL_law_40 (xl_24 x bS L xs cs Qf i hi0 hiL hL μ K hK1 (h.2.2.2.2.2.2.2.2.2.2.2.2.2.2.2.2.2.2.2.2.2.2.2.2.1 k24))
  by_cases k25 : xAnd (scOf xs i) 63 = 25
  · exact x_tabIn (tgt := 885) 25 (xAnd_in _ _) (by omega) (by decide) rfl (by decide) dL_law_40 (xl_25 x bS L xs cs Qf i hi0 hiL hL μ K hK1 (h.2.2.2.2.2.2.2.2.2.2.2.2.2.2.2.2.2.2.2.2.2.2.2.2.2.1 k25))
  by_cases k26 : xAnd (scOf xs i) 63 = 26
  · exact x_tabIn (tgt := 898) 26 (xAnd_in _ _) (by omega) (by decide) rfl (by decide) dL_law_40 (xl_26 x bS L xs cs Qf i hi0 hiL hL μ K hK1 (h.2.2.2.2.2.2.2.2.2.2.2.2.2.2.2.2.2.2.2.2.2.2.2.2.2.2.1 k26))
  by_cases k27 : xAnd (scOf xs i) 63 = 27
  · exact x_tabIn (tgt := 911) 27 (xAnd_in _ _) (by omega) (by decide) rfl (by decide) dL_law_40 (xl_27 x bS L xs cs Qf i hi0 hiL hL μ K hK1 (h.2.2.2.2.2.2.2.2.2.2.2.2.2.2.2.2.2.2.2.2.2.2.2.2.2.2.2.1 k27))
  by_cases k28 : xAnd (scOf xs i) 63 = 28
  · exact x_tabIn (tgt := 936) 28 (xAnd_in _ _) (by omega) (by decide) rfl (by decide) dL_law_40 (xl_28 x bS L xs cs Qf i hi0 hiL hL μ K hK1 (h.2.2.2.2.2.2.2.2.2.2.2.2.2.2.2.2.2.2.2.2.2.2.2.2.2.2.2.2.1 k28))
  by_cases k29 : xAnd (scOf xs i) 63 = 29
  · exact x_tabIn (tgt := 997) 29 (xAnd_in _ _) (by omega) (by decide) rfl (by decide) dL_law_40 (xl_29 x bS L xs cs Qf i hi0 hiL hL μ K hK1 (h.2.2.2.2.2.2.2.2.2.2.2.2.2.2.2.2.2.2.2.2.2.2.2.2.2.2.2.2.2.1 k29))
  by_cases k30 : xAnd (scOf xs i) 63 = 30
  · exact x_tabIn (tgt := 1010) 30 (xAnd_in _ _) (by omega) (by decide) rfl (by decide) dL_law_40 (xl_30 x bS L xs cs Qf i hi0 hiL hL μ K hK1 (h.2.2.2.2.2.2.2.2.2.2.2.2.2.2.2.2.2.2.2.2.2.2.2.2.2.2.2.2.2.2.1 k30))
  by_cases k31 : xAnd (scOf xs i) 63 = 31
  · exact x_tabIn (tgt := 1035) 31 (xAnd_in _ _) (by omega) (by decide) rfl (by decide) dL_law_40 (xl_31 x bS L xs cs Qf i hi0 hiL hL μ K hK1 (h.2.2.2.2.2.2.2.2.2.2.2.2.2.2.2.2.2.2.2.2.2.2.2.2.2.2.2.2.2.2.2.1 k31))
  by_cases k32 : xAnd (scOf xs i) 63 = 32
  · exact x_tabIn (tgt := 1089) 32 (xAnd_in _ _) (by omega) (by decide) rfl (by decide) dL_law_40 (xl_32 x bS L xs cs Qf i hi0 hiL hL μ K hK1 (h.2.2.2.2.2.2.2.2.2.2.2.2.2.2.2.2.2.2.2.2.2.2.2.2.2.2.2.2.2.2.2.2.1 k32))
  by_cases k33 : xAnd (scOf xs i) 63 = 33
  · exact x_tabIn (tgt := 1102) 33 (xAnd_in _ _) (by omega) (by decide) rfl (by decide) dL_law_40 (xl_33 x bS L xs cs Qf i hi0 hiL hL μ K hK1 (h.2.2.2.2.2.2.2.2.2.2.2.2.2.2.2.2.2.2.2.2.2.2.2.2.2.2.2.2.2.2.2.2.2.1 k33))
  by_cases k34 : xAnd (scOf xs i) 63 = 34
  · exact x_tabIn (tgt := 1115) 34 (xAnd_in _ _) (by omega) (by decide) rfl (by decide) dL_law_40 (xl_34 x bS L xs cs Qf i hi0 hiL hL μ K hK1 (h.2.2.2.2.2.2.2.2.2.2.2.2.2.2.2.2.2.2.2.2.2.2.2.2.2.2.2.2.2.2.2.2.2.2.1 k34))
  by_cases k35 : xAnd (scOf xs i) 63 = 35
  · exact x_tabIn (tgt := 1128) 35 (xAnd_in _ _) (by omega) (by decide) rfl (by decide) dL_law_40 (xl_35 x bS L xs cs Qf i hi0 hiL hL μ K hK1 (h.2.2.2.2.2.2.2.2.2.2.2.2.2.2.2.2.2.2.2.2.2.2.2.2.2.2.2.2.2.2.2.2.2.2.2.1 k35))
  by_cases k36 : xAnd (scOf xs i) 63 = 36
  · exact x_tabIn (tgt := 1153) 36 (xAnd_in _ _) (by omega) (by decide) rfl (by decide) dL_law_40 (xl_36 x bS L xs cs Qf i hi0 hiL hL μ K hK1 (h.2.2.2.2.2.2.2.2.2.2.2.2.2.2.2.2.2.2.2.2.2.2.2.2.2.2.2.2.2.2.2.2.2.2.2.2.1 k36))
  by_cases k37 : xAnd (scOf xs i) 63 = 37
  · exact x_tabIn (tgt := 1166) 37 (xAnd_in _ _) (by omega) (by decide) rfl (by decide) dL_law_40 (xl_37 x bS L xs cs Qf i hi0 hiL hL μ K hK1 (h.2.2.2.2.2.2.2.2.2.2.2.2.2.2.2.2.2.2.2.2.2.2.2.2.2.2.2.2.2.2.2.2.2.2.2.2.2.1 k37))
  by_cases k38 : xAnd (scOf xs i) 63 = 38
  · exact x_tabIn (tgt := 1179) 38 (xAnd_in _ _) (by omega) (by decide) rfl (by decide) dL_law_40 (xl_38 x bS L xs cs Qf i hi0 hiL hL μ K hK1 (h.2.2.2.2.2.2.2.2.2.2.2.2.2.2.2.2.2.2.2.2.2.2.2.2.2.2.2.2.2.2.2.2.2.2.2.2.2.2.1 k38))
  by_cases k39 : xAnd (scOf xs i) 63 = 39
  · exact x_tabIn (tgt := 1204) 39 (xAnd_in _ _) (by omega) (by decide) rfl (by decide) dL_law_40 (xl_39 x bS L xs cs Qf i hi0 hiL hL μ K hK1 (h.2.2.2.2.2.2.2.2.2.2.2.2.2.2.2.2.2.2.2.2.2.2.2.2.2.2.2.2.2.2.2.2.2.2.2.2.2.2.2.1 k39))
  by_cases k40 : xAnd (scOf xs i) 63 = 40
  · exact x_tabIn (tgt := 1241) 40 (xAnd_in _ _) (by omega) (by decide) rfl (by decide) dL_law_40 (xl_40 x bS L xs cs Qf i hi0 hiL hL μ K hK1 (h.2.2.2.2.2.2.2.2.2.2.2.2.2.2.2.2.2.2.2.2.2.2.2.2.2.2.2.2.2.2.2.2.2.2.2.2.2.2.2.2.1 k40))
  by_cases k41 : xAnd (scOf xs i) 63 = 41
  · exact x_tabIn (tgt := 1294) 41 (xAnd_in _ _) (by omega) (by decide) rfl (by decide) dL_law_40 (xl_41 x bS L xs cs Qf i hi0 hiL hL μ K hK1 (h.2.2.2.2.2.2.2.2.2.2.2.2.2.2.2.2.2.2.2.2.2.2.2.2.2.2.2.2.2.2.2.2.2.2.2.2.2.2.2.2.2.1 k41))
  by_cases k42 : xAnd (scOf xs i) 63 = 42
  · exact x_tabIn (tgt := 1319) 42 (xAnd_in _ _) (by omega) (by decide) rfl (by decide) dL_law_40 (xl_42 x hst bS L xs cs Qf i hi0 hiL hL μ K hcs hK (h.2.2.2.2.2.2.2.2.2.2.2.2.2.2.2.2.2.2.2.2.2.2.2.2.2.2.2.2.2.2.2.2.2.2.2.2.2.2.2.2.2.2.1 k42))
  by_cases k43 : xAnd (scOf xs i) 63 = 43
  · exact x_tabIn (tgt := 1375) 43 (xAnd_in _ _) (by omega) (by decide) rfl (by decide) dL_law_40 (xl_43 x bS L xs cs Qf i hi0 hiL hL μ K hK1 (h.2.2.2.2.2.2.2.2.2.2.2.2.2.2.2.2.2.2.2.2.2.2.2.2.2.2.2.2.2.2.2.2.2.2.2.2.2.2.2.2.2.2.2.1 k43))
  by_cases k44 : xAnd (scOf xs i) 63 = 44
  · exact x_tabIn (tgt := 1400) 44 (xAnd_in _ _) (by omega) (by decide) rfl (by decide) dL_law_40 (xl_44 x bS L xs cs Qf i hi0 hiL hL μ K hK1 (h.2.2.2.2.2.2.2.2.2.2.2.2.2.2.2.2.2.2.2.2.2.2.2.2.2.2.2.2.2.2.2.2.2.2.2.2.2.2.2.2.2.2.2.2.1 k44))
  have kk : xAnd (scOf xs i) 63 < 0 ∨ 44 < xAnd (scOf xs i) 63 := by omega
  exact x_tabOut (tgt := 1413) (xAnd_in _ _) kk (by decide) dL_law_40 (hK1 _ (h.2.2.2.2.2.2.2.2.2.2.2.2.2.2.2.2.2.2.2.2.2.2.2.2.2.2.2.2.2.2.2.2.2.2.2.2.2.2.2.2.2.2.2.2.2 kk))
def lF (bS : Nat) : List Frame → Array Value → State → State → Prop := fun below _ s => lw_Z below #[Value.ref bS] s
set_option maxRecDepth 100000 in
/-- from the head on: the invariant holds at every head, and every step answers alike -/
theorem xlaw_loop (x : xX) (hst : x.1.stackTraces = false) (bS L : Nat) (xs : Nat → Int32) (hL : L ≤ 3072) (I : xM → Prop) (hI : ∀ (i : Int) (μ : xM), I μ → xRan μ → 0 ≤ i → i + 6 ≤ L → tlaw (scOf xs) i μ I)
    (hx1 : ∀ (cs : Nat × Nat) (i : Int) (μ : xM), xG x (lY bS L xs x) cs (lF bS) 1419 [(0, .ref bS), (1, .ref (x.2.2.1 + 0)), (2, .ref (x.2.2.1 + 260)), (3, .ref (x.2.2.1 + 280)), (4, iV i)] [] μ) : ∀ (n : Nat) (i : Int) (cs : Nat × Nat) (μ : xM), 0 ≤ i → i + 6 * n ≤ 4000 → (L : Int) + 6 ≤ i + 6 * n → cs.1 + n ≤ room_1.cells → cs.2 + 10 * n ≤ room_1.slots → I μ → xG x (lY bS L xs x) cs (lF bS) 23 [(0, .ref bS), (1, .ref (x.2.2.1 + 0)), (2, .ref (x.2.2.1 + 260)), (3, .ref (x.2.2.1 + 280)), (4, iV i)] [] μ := by
  intro n
  induction n with
  | zero =>
    intro i cs μ hi0 hiN hn hc1 hc2 hμ
    refine x_ran (fun hr => ?_)
    have hi : xIn i := ⟨by omega, by omega⟩
    refine x_iload 4 rfl dL_law_23 ?_
    refine x_aload_n 0 rfl dL_law_25 ?_
    refine x_scl dL_law_26 ?_
    refine x_bipush dL_law_27 (by decide) ?_
    refine x_isub dL_law_29 ?_
    exact x_icmpgt (tgt := 1419) hi ⟨by omega, by omega⟩ dL_law_30 (by decide) (fun k => hx1 cs i μ) (fun k => absurd k (by omega))
  | succ n ih =>
    intro i cs μ hi0 hiN hn hc1 hc2 hμ
    refine x_ran (fun hr => ?_)
    refine xlaw_step x hst bS L xs cs (lF bS) i hi0 (by omega) hL μ (fun ν => I ν) ⟨by omega, by omega⟩ (fun _ => hx1 cs i μ) (fun hiL => hI i μ hμ hr hi0 hiL) (fun ν hν => ?_)
    refine x_iinc 4 rfl [(4, iV (i + 6)), (0, .ref bS), (1, .ref (x.2.2.1 + 0)), (2, .ref (x.2.2.1 + 260)), (3, .ref (x.2.2.1 + 280))] dL_law_1413 (show 4 < 7 by decide) rfl ?_
    refine x_goto (tgt := 23) dL_law_1416 (by decide) ?_
    refine x_sub [1, 2, 3, 4, 0] rfl ?_
    exact ih (i + 6) (cs.1 + 1, cs.2 + 10) ν (by omega) (by omega) (by omega) (by show cs.1 + 1 + n ≤ _; omega) (by show cs.2 + 10 + 10 * n ≤ _; omega) hν
theorem lw_retA {p : Program} {l : Launch} {e : Env} {s : State} {m : MethodId} {args a : Array Value} {below : List Frame} {meth : Method} {c : Code} (hx : p.tables.exec = Jvm.exec) (hb : c.code = code) (hr : meth.sig.returnType = some .boolean) (hlocks : meth.locks = false) {pc : Nat} {H : Heap} {ls : Array Slot} (hdg : decode code pc = .ok (.ireturn, 1)) : W p l e room_1 s m args below meth c H [] 601024 7293034 (lw_Z below a s) (F0 m pc ls [.int 1]) := by
  intro T hT X
  obtain ⟨fs, hret, hrun, hended, hW, hframe⟩ := X.leave (v := some (.int 1)) (hlocks := hlocks) (fun h => by rw [hr] at h; cases h)
  have hmeth' : T.vm.method? m = some meth := X.method'
  refine ⟨T.setFrames fs, ?_, .returned (some (.int 1)), hrun, hended, rfl, ⟨_, rfl⟩, hW, hframe⟩
  jvm_step X.here [X.here.top, hx, hb, hdg, hmeth', hr, narrow_b1]
  (try refine ⟨rfl, ?_⟩); (try refine ⟨rfl, ?_⟩)
  first | (intro acts; rw [hret _ acts rfl rfl rfl]) | rw [hret _ _ rfl rfl rfl]
  exact Steps.refl _
theorem xlaw_exit (x : xX) (bS L : Nat) (xs : Nat → Int32) (cs : Nat × Nat) (i : Int) (μ : xM) : xG x (lY bS L xs x) cs (lF bS) 1419 [(0, .ref bS), (1, .ref (x.2.2.1 + 0)), (2, .ref (x.2.2.1 + 260)), (3, .ref (x.2.2.1 + 280)), (4, iV i)] [] μ := by
  refine x_iconst dL_law_1419 ?_
  intro p e s m args below meth c H locs ls hC hcs hR hS hl
  obtain ⟨hx, hb, hr, hml, hown, hts, hlk, hU, hφ⟩ := hC
  refine va_forget (fun q hq => Nat.le_trans hφ.2.2.2.1 (hS.2.2 q hq)) ?_
  refine W.widen (k := 601024) (n := 7293034) hcs.1 hcs.2 ?_
  exact lw_retA hx hb hr hlk dL_law_1420
