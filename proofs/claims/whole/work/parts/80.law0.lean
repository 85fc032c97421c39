def scOf (xs : Nat → Int32) (j : Int) : Int := (xs j.toNat).toInt
theorem scOf_in (xs : Nat → Int32) (j : Int) : xIn (scOf xs j) := xI_rng _
theorem xcmp0 {a b : Int} (h : a = b) : (if b < a then (1 : Int) else if a = b then 0 else -1) = 0 := by subst h; simp
abbrev lY (bS L : Nat) (xs : Nat → Int32) (x : xX) : xY := (room_1, RL, cL_law, 7, some .boolean, fun s _ => va_X bS L xs s s.heap ∧ bS < s.heap.size ∧ ¬ xA x.2.2.1 bS ∧ s.heap.size ≤ x.2.2.1 ∧ xN x s)
theorem x_scr {x : xX} {bS L : Nat} {xs : Nat → Int32} {cs : Nat × Nat} {Qf : List Frame → Array Value → State → State → Prop} {pc : Nat} {lv : List (Nat × Value)} {st : List Value} {μ : xM} {j : Int} (h0 : 0 ≤ j) (h1 : j < L) (hj : xIn j) (hd : decode cL_law pc = .ok (.iaload, 1)) (k : xG x (lY bS L xs x) cs Qf (pc + 1) lv (iV (scOf xs j) :: st) μ) : xG x (lY bS L xs x) cs Qf pc lv (iV j :: .ref bS :: st) μ := by
  intro p e s m args below meth c H locs ls hC hcs hR hS hl
  obtain ⟨hx, hb, hr, hml, hown, hts, hlk, hU, hφ⟩ := hC
  refine va_sld hx hb hφ.1 hφ.2.1 hφ.2.2.1 hS (xI_in h0 h1 hj) hd ?_
  have h := k p e s m args below meth c H locs ls ⟨hx, hb, hr, hml, hown, hts, hlk, hU, hφ⟩ hcs hR hS hl
  rw [show iV (scOf xs j) = Value.int (xs (Int32.ofInt j).toNatClampNeg) by rw [xI_nat hj]; exact congrArg Value.int (Int32.ofInt_toInt _)] at h
  exact h
theorem x_scl {x : xX} {bS L : Nat} {xs : Nat → Int32} {cs : Nat × Nat} {Qf : List Frame → Array Value → State → State → Prop} {pc : Nat} {lv : List (Nat × Value)} {st : List Value} {μ : xM} (hd : decode cL_law pc = .ok (.arraylength, 1)) (k : xG x (lY bS L xs x) cs Qf (pc + 1) lv (iV L :: st) μ) : xG x (lY bS L xs x) cs Qf pc lv (.ref bS :: st) μ := by
  intro p e s m args below meth c H locs ls hC hcs hR hS hl
  obtain ⟨hx, hb, hr, hml, hown, hts, hlk, hU, hφ⟩ := hC
  refine va_slen hx hb hφ.1 hφ.2.1 hφ.2.2.1 hS hd ?_
  have h := k p e s m args below meth c H locs ls ⟨hx, hb, hr, hml, hown, hts, hlk, hU, hφ⟩ hcs hR hS hl
  rw [show iV (L : Int) = Value.int (Int32.ofNat L) from congrArg Value.int Int32.ofInt_eq_ofNat] at h
  exact h
theorem xG_widen {x : xX} {y : xY} {cs cs' : Nat × Nat} {Qf : List Frame → Array Value → State → State → Prop} {pc : Nat} {lv : List (Nat × Value)} {st : List Value} {μ : xM} (h1 : cs.1 ≤ cs'.1) (h2 : cs.2 ≤ cs'.2) (h3 : cs'.1 ≤ y.1.cells ∧ cs'.2 ≤ y.1.slots) (k : xG x y cs' Qf pc lv st μ) : xG x y cs Qf pc lv st μ :=
  fun p e s m args below meth c H locs ls hC _ hR hS hl => W.widen h1 h2 (k p e s m args below meth c H locs ls hC h3 hR hS hl)
set_option maxRecDepth 100000 in
set_option maxHeartbeats 4000000 in
theorem xl_0 (x : xX) (bS L : Nat) (xs : Nat → Int32) (cs : Nat × Nat) (Qf : List Frame → Array Value → State → State → Prop) (i : Int) (hi0 : 0 ≤ i) (hiL : i + 6 ≤ L) (hL : L ≤ 3072) (μ : xM) (K : xM → Prop) (hK : ∀ ν : xM, K ν → xG x (lY bS L xs x) cs Qf 1413 [(0, .ref bS), (1, .ref (x.2.2.1 + 0)), (2, .ref (x.2.2.1 + 260)), (3, .ref (x.2.2.1 + 280)), (4, iV i)] [] ν) (h : tl_0 (scOf xs) i μ K) : xG x (lY bS L xs x) cs Qf 236 [(0, .ref bS), (1, .ref (x.2.2.1 + 0)), (2, .ref (x.2.2.1 + 260)), (3, .ref (x.2.2.1 + 280)), (4, iV i)] [] μ := by
  have hi : xIn i := ⟨by omega, by omega⟩
  unfold tl_0 at h
  refine x_aload_n 1 rfl dL_law_236 ?_
  refine x_aload_n 0 rfl dL_law_237 ?_
  refine x_iload 4 rfl dL_law_238 ?_
  refine x_iconst dL_law_240 ?_
  refine x_iadd dL_law_241 ?_
  refine x_scr (j := i + 1) (by omega) (by omega) ⟨by omega, by omega⟩ dL_law_242 ?_
  refine x_aload_n 0 rfl dL_law_243 ?_
  refine x_iload 4 rfl dL_law_244 ?_
  refine x_iconst dL_law_246 ?_
  refine x_iadd dL_law_247 ?_
  refine x_scr (j := i + 2) (by omega) (by omega) ⟨by omega, by omega⟩ dL_law_248 ?_
  refine x_aload_n 0 rfl dL_law_249 ?_
  refine x_iload 4 rfl dL_law_250 ?_
  refine x_iconst dL_law_252 ?_
  refine x_iadd dL_law_253 ?_
  refine x_scr (j := i + 3) (by omega) (by omega) ⟨by omega, by omega⟩ dL_law_254 ?_
  refine x_aload_n 0 rfl dL_law_255 ?_
  refine x_iload 4 rfl dL_law_256 ?_
  refine x_iconst dL_law_258 ?_
  refine x_iadd dL_law_259 ?_
  refine x_scr (j := i + 4) (by omega) (by omega) ⟨by omega, by omega⟩ dL_law_260 ?_
  refine x_aload_n 0 rfl dL_law_261 ?_
  refine x_iload 4 rfl dL_law_262 ?_
  refine x_iconst dL_law_264 ?_
  refine x_iadd dL_law_265 ?_
  refine x_scr (j := i + 5) (by omega) (by omega) ⟨by omega, by omega⟩ dL_law_266 ?_
  refine x_callVi (As := [iV (scOf xs (i + 1)), iV (scOf xs (i + 2)), iV (scOf xs (i + 3)), iV (scOf xs (i + 4)), iV (scOf xs (i + 5))]) (rest := []) cal_X10_feed ins_X10_feed sel_X10_feed ly0 (by decide) rfl (xX10_feed x (scOf xs (i + 1)) (scOf xs (i + 2)) (scOf xs (i + 3)) (scOf xs (i + 4)) (scOf xs (i + 5)) _ _ (scOf_in _ _) (scOf_in _ _) (scOf_in _ _) (scOf_in _ _) (scOf_in _ _) h) rfl ml_L_19 ⟨Nat.le_of_ble_eq_true rfl, Nat.le_of_ble_eq_true rfl⟩ (Nat.le_of_ble_eq_true rfl) dL_law_267 (fun r3 μ1 i4 n2 h => ?_)
  have h := h i4 n2
  refine x_aload_n 2 rfl dL_law_270 ?_
  refine x_aload_n 0 rfl dL_law_271 ?_
  refine x_iload 4 rfl dL_law_272 ?_
  refine x_iconst dL_law_274 ?_
  refine x_iadd dL_law_275 ?_
  refine x_scr (j := i + 1) (by omega) (by omega) ⟨by omega, by omega⟩ dL_law_276 ?_
  refine x_aload_n 0 rfl dL_law_277 ?_
  refine x_iload 4 rfl dL_law_278 ?_
  refine x_iconst dL_law_280 ?_
  refine x_iadd dL_law_281 ?_
  refine x_scr (j := i + 2) (by omega) (by omega) ⟨by omega, by omega⟩ dL_law_282 ?_
  refine x_aload_n 0 rfl dL_law_283 ?_
  refine x_iload 4 rfl dL_law_284 ?_
  refine x_iconst dL_law_286 ?_
  refine x_iadd dL_law_287 ?_
  refine x_scr (j := i + 3) (by omega) (by omega) ⟨by omega, by omega⟩ dL_law_288 ?_
  refine x_aload_n 0 rfl dL_law_289 ?_
  refine x_iload 4 rfl dL_law_290 ?_
  refine x_iconst dL_law_292 ?_
  refine x_iadd dL_law_293 ?_
  refine x_scr (j := i + 4) (by omega) (by omega) ⟨by omega, by omega⟩ dL_law_294 ?_
  refine x_aload_n 0 rfl dL_law_295 ?_
  refine x_iload 4 rfl dL_law_296 ?_
  refine x_iconst dL_law_298 ?_
  refine x_iadd dL_law_299 ?_
  refine x_scr (j := i + 5) (by omega) (by omega) ⟨by omega, by omega⟩ dL_law_300 ?_
  refine x_callVi (As := [iV (scOf xs (i + 1)), iV (scOf xs (i + 2)), iV (scOf xs (i + 3)), iV (scOf xs (i + 4)), iV (scOf xs (i + 5))]) (rest := [iV r3]) cal_X11_feed ins_X11_feed sel_X11_feed ly260 (by decide) rfl (xX11_feed x (scOf xs (i + 1)) (scOf xs (i + 2)) (scOf xs (i + 3)) (scOf xs (i + 4)) (scOf xs (i + 5)) _ _ (scOf_in _ _) (scOf_in _ _) (scOf_in _ _) (scOf_in _ _) (scOf_in _ _) h) rfl ml_L_23 ⟨Nat.le_of_ble_eq_true rfl, Nat.le_of_ble_eq_true rfl⟩ (Nat.le_of_ble_eq_true rfl) dL_law_301 (fun r7 μ5 i8 n6 h => ?_)
  have h := h i8 n6
  obtain ⟨c9, h⟩ := h
  refine x_icmpeq (tgt := 1413) i4 i8 dL_law_304 (by decide) (fun _ => ?_) (fun k => absurd c9 k)
  exact hK _ h
set_option maxRecDepth 100000 in
set_option maxHeartbeats 4000000 in
theorem xl_1 (x : xX) (bS L : Nat) (xs : Nat → Int32) (cs : Nat × Nat) (Qf : List Frame → Array Value → State → State → Prop) (i : Int) (hi0 : 0 ≤ i) (hiL : i + 6 ≤ L) (hL : L ≤ 3072) (μ : xM) (K : xM → Prop) (hK : ∀ ν : xM, K ν → xG x (lY bS L xs x) cs Qf 1413 [(0, .ref bS), (1, .ref (x.2.2.1 + 0)), (2, .ref (x.2.2.1 + 260)), (3, .ref (x.2.2.1 + 280)), (4, iV i)] [] ν) (h : tl_1 (scOf xs) i μ K) : xG x (lY bS L xs x) cs Qf 309 [(0, .ref bS), (1, .ref (x.2.2.1 + 0)), (2, .ref (x.2.2.1 + 260)), (3, .ref (x.2.2.1 + 280)), (4, iV i)] [] μ := by
  have hi : xIn i := ⟨by omega, by omega⟩
  unfold tl_1 at h
  refine x_aload_n 1 rfl dL_law_309 ?_
  refine x_aload_n 0 rfl dL_law_310 ?_
  refine x_iload 4 rfl dL_law_311 ?_
  refine x_iconst dL_law_313 ?_
  refine x_iadd dL_law_314 ?_
  refine x_scr (j := i + 1) (by omega) (by omega) ⟨by omega, by omega⟩ dL_law_315 ?_
  refine x_callVi (As := [iV (scOf xs (i + 1))]) (rest := []) cal_X10_inn ins_X10_inn sel_X10_inn ly0 (by decide) rfl (xX10_inn x (scOf xs (i + 1)) _ _ (scOf_in _ _) h) rfl ml_L_24 ⟨Nat.le_of_ble_eq_true rfl, Nat.le_of_ble_eq_true rfl⟩ (Nat.le_of_ble_eq_true rfl) dL_law_316 (fun r12 μ10 i13 n11 h => ?_)
  have h := h i13 n11
  refine x_aload_n 2 rfl dL_law_319 ?_
  refine x_aload_n 0 rfl dL_law_320 ?_
  refine x_iload 4 rfl dL_law_321 ?_
  refine x_iconst dL_law_323 ?_
  refine x_iadd dL_law_324 ?_
  refine x_scr (j := i + 1) (by omega) (by omega) ⟨by omega, by omega⟩ dL_law_325 ?_
  refine x_callVi (As := [iV (scOf xs (i + 1))]) (rest := [iV r12]) cal_X11_inn ins_X11_inn sel_X11_inn ly260 (by decide) rfl (xX11_inn x (scOf xs (i + 1)) _ _ (scOf_in _ _) h) rfl ml_L_27 ⟨Nat.le_of_ble_eq_true rfl, Nat.le_of_ble_eq_true rfl⟩ (Nat.le_of_ble_eq_true rfl) dL_law_326 (fun r16 μ14 i17 n15 h => ?_)
  have h := h i17 n15
  obtain ⟨c18, h⟩ := h
  refine x_icmpeq (tgt := 1413) i13 i17 dL_law_329 (by decide) (fun _ => ?_) (fun k => absurd c18 k)
  exact hK _ h
set_option maxRecDepth 100000 in
set_option maxHeartbeats 4000000 in
theorem xl_2 (x : xX) (bS L : Nat) (xs : Nat → Int32) (cs : Nat × Nat) (Qf : List Frame → Array Value → State → State → Prop) (i : Int) (hi0 : 0 ≤ i) (hiL : i + 6 ≤ L) (hL : L ≤ 3072) (μ : xM) (K : xM → Prop) (hK : ∀ ν : xM, K ν → xG x (lY bS L xs x) cs Qf 1413 [(0, .ref bS), (1, .ref (x.2.2.1 + 0)), (2, .ref (x.2.2.1 + 260)), (3, .ref (x.2.2.1 + 280)), (4, iV i)] [] ν) (h : tl_2 (scOf xs) i μ K) : xG x (lY bS L xs x) cs Qf 334 [(0, .ref bS), (1, .ref (x.2.2.1 + 0)), (2, .ref (x.2.2.1 + 260)), (3, .ref (x.2.2.1 + 280)), (4, iV i)] [] μ := by
  have hi : xIn i := ⟨by omega, by omega⟩
  unfold tl_2 at h
  refine x_aload_n 1 rfl dL_law_334 ?_
  refine x_callVi (As := []) (rest := []) cal_X10_fault ins_X10_fault sel_X10_fault ly0 (by decide) rfl (xX10_fault x  _ _  h) rfl ml_L_28 ⟨Nat.le_of_ble_eq_true rfl, Nat.le_of_ble_eq_true rfl⟩ (Nat.le_of_ble_eq_true rfl) dL_law_335 (fun r21 μ19 i22 n20 h => ?_)
  have h := h i22 n20
  refine x_aload_n 2 rfl dL_law_338 ?_
  refine x_callVi (As := []) (rest := [iV r21]) cal_X11_fault ins_X11_fault sel_X11_fault ly260 (by decide) rfl (xX11_fault x  _ _  h) rfl ml_L_32 ⟨Nat.le_of_ble_eq_true rfl, Nat.le_of_ble_eq_true rfl⟩ (Nat.le_of_ble_eq_true rfl) dL_law_339 (fun r25 μ23 i26 n24 h => ?_)
  have h := h i26 n24
  obtain ⟨c27, h⟩ := h
  refine x_icmpeq (tgt := 1413) i22 i26 dL_law_342 (by decide) (fun _ => ?_) (fun k => absurd c27 k)
  exact hK _ h
set_option maxRecDepth 100000 in
set_option maxHeartbeats 4000000 in
theorem xl_3 (x : xX) (bS L : Nat) (xs : Nat → Int32) (cs : Nat × Nat) (Qf : List Frame → Array Value → State → State → Prop) (i : Int) (hi0 : 0 ≤ i) (hiL : i + 6 ≤ L) (hL : L ≤ 3072) (μ : xM) (K : xM → Prop) (hK : ∀ ν : xM, K ν → xG x (lY bS L xs x) cs Qf 1413 [(0, .ref bS), (1, .ref (x.2.2.1 + 0)), (2, .ref (x.2.2.1 + 260)), (3, .ref (x.2.2.1 + 280)), (4, iV i)] [] ν) (h : tl_3 (scOf xs) i μ K) : xG x (lY bS L xs x) cs Qf 347 [(0, .ref bS), (1, .ref (x.2.2.1 + 0)), (2, .ref (x.2.2.1 + 260)), (3, .ref (x.2.2.1 + 280)), (4, iV i)] [] μ := by
  have hi : xIn i := ⟨by omega, by omega⟩
  unfold tl_3 at h
  refine x_aload_n 1 rfl dL_law_347 ?_
  refine x_callVi (As := []) (rest := []) cal_X10_where ins_X10_where sel_X10_where ly0 (by decide) rfl (xX10_where x  _ _  h) rfl ml_L_33 ⟨Nat.le_of_ble_eq_true rfl, Nat.le_of_ble_eq_true rfl⟩ (Nat.le_of_ble_eq_true rfl) dL_law_348 (fun r30 μ28 i31 n29 h => ?_)
  have h := h i31 n29
  refine x_aload_n 2 rfl dL_law_351 ?_
  refine x_callVi (As := []) (rest := [iV r30]) cal_X11_where ins_X11_where sel_X11_where ly260 (by decide) rfl (xX11_where x  _ _  h) rfl ml_L_36 ⟨Nat.le_of_ble_eq_true rfl, Nat.le_of_ble_eq_true rfl⟩ (Nat.le_of_ble_eq_true rfl) dL_law_352 (fun r34 μ32 i35 n33 h => ?_)
  have h := h i35 n33
  obtain ⟨c36, h⟩ := h
  refine x_icmpeq (tgt := 1413) i31 i35 dL_law_355 (by decide) (fun _ => ?_) (fun k => absurd c36 k)
  exact hK _ h
set_option maxRecDepth 100000 in
set_option maxHeartbeats 4000000 in
theorem xl_4 (x : xX) (bS L : Nat) (xs : Nat → Int32) (cs : Nat × Nat) (Qf : List Frame → Array Value → State → State → Prop) (i : Int) (hi0 : 0 ≤ i) (hiL : i + 6 ≤ L) (hL : L ≤ 3072) (μ : xM) (K : xM → Prop) (hK : ∀ ν : xM, K ν → xG x (lY bS L xs x) cs Qf 1413 [(0, .ref bS), (1, .ref (x.2.2.1 + 0)), (2, .ref (x.2.2.1 + 260)), (3, .ref (x.2.2.1 + 280)), (4, iV i)] [] ν) (h : tl_4 (scOf xs) i μ K) : xG x (lY bS L xs x) cs Qf 360 [(0, .ref bS), (1, .ref (x.2.2.1 + 0)), (2, .ref (x.2.2.1 + 260)), (3, .ref (x.2.2.1 + 280)), (4, iV i)] [] μ := by
  have hi : xIn i := ⟨by omega, by omega⟩
  unfold tl_4 at h
  refine x_aload_n 1 rfl dL_law_360 ?_
  refine x_aload_n 0 rfl dL_law_361 ?_
  refine x_iload 4 rfl dL_law_362 ?_
  refine x_iconst dL_law_364 ?_
  refine x_iadd dL_law_365 ?_
  refine x_scr (j := i + 1) (by omega) (by omega) ⟨by omega, by omega⟩ dL_law_366 ?_
  refine x_aload_n 0 rfl dL_law_367 ?_
  refine x_iload 4 rfl dL_law_368 ?_
  refine x_iconst dL_law_370 ?_
  refine x_iadd dL_law_371 ?_
  refine x_scr (j := i + 2) (by omega) (by omega) ⟨by omega, by omega⟩ dL_law_372 ?_
  refine x_callVi (As := [iV (scOf xs (i + 1)), iV (scOf xs (i + 2))]) (rest := []) cal_X10_word ins_X10_word sel_X10_word ly0 (by decide) rfl (xX10_word x (scOf xs (i + 1)) (scOf xs (i + 2)) _ _ (scOf_in _ _) (scOf_in _ _) h) rfl ml_L_37 ⟨Nat.le_of_ble_eq_true rfl, Nat.le_of_ble_eq_true rfl⟩ (Nat.le_of_ble_eq_true rfl) dL_law_373 (fun r39 μ37 i40 n38 h => ?_)
  have h := h i40 n38
  refine x_aload_n 2 rfl dL_law_376 ?_
  refine x_aload_n 0 rfl dL_law_377 ?_
  refine x_iload 4 rfl dL_law_378 ?_
  refine x_iconst dL_law_380 ?_
  refine x_iadd dL_law_381 ?_
  refine x_scr (j := i + 1) (by omega) (by omega) ⟨by omega, by omega⟩ dL_law_382 ?_
  refine x_aload_n 0 rfl dL_law_383 ?_
  refine x_iload 4 rfl dL_law_384 ?_
  refine x_iconst dL_law_386 ?_
  refine x_iadd dL_law_387 ?_
  refine x_scr (j := i + 2) (by omega) (by omega) ⟨by omega, by omega⟩ dL_law_388 ?_
  refine x_callVi (As := [iV (scOf xs (i + 1)), iV (scOf xs (i + 2))]) (rest := [iV r39]) cal_X11_word ins_X11_word sel_X11_word ly260 (by decide) rfl (xX11_word x (scOf xs (i + 1)) (scOf xs (i + 2)) _ _ (scOf_in _ _) (scOf_in _ _) h) rfl ml_L_41 ⟨Nat.le_of_ble_eq_true rfl, Nat.le_of_ble_eq_true rfl⟩ (Nat.le_of_ble_eq_true rfl) dL_law_389 (fun r43 μ41 i44 n42 h => ?_)
  have h := h i44 n42
  obtain ⟨c45, h⟩ := h
  refine x_icmpeq (tgt := 1413) i40 i44 dL_law_392 (by decide) (fun _ => ?_) (fun k => absurd c45 k)
  exact hK _ h
set_option maxRecDepth 100000 in
set_option maxHeartbeats 4000000 in
theorem xl_5 (x : xX) (bS L : Nat) (xs : Nat → Int32) (cs : Nat × Nat) (Qf : List Frame → Array Value → State → State → Prop) (i : Int) (hi0 : 0 ≤ i) (hiL : i + 6 ≤ L) (hL : L ≤ 3072) (μ : xM) (K : xM → Prop) (hK : ∀ ν : xM, K ν → xG x (lY bS L xs x) cs Qf 1413 [(0, .ref bS), (1, .ref (x.2.2.1 + 0)), (2, .ref (x.2.2.1 + 260)), (3, .ref (x.2.2.1 + 280)), (4, iV i)] [] ν) (h : tl_5 (scOf xs) i μ K) : xG x (lY bS L xs x) cs Qf 397 [(0, .ref bS), (1, .ref (x.2.2.1 + 0)), (2, .ref (x.2.2.1 + 260)), (3, .ref (x.2.2.1 + 280)), (4, iV i)] [] μ := by
  have hi : xIn i := ⟨by omega, by omega⟩
  unfold tl_5 at h
  refine x_aload_n 1 rfl dL_law_397 ?_
  refine x_aload_n 0 rfl dL_law_398 ?_
  refine x_iload 4 rfl dL_law_399 ?_
  refine x_iconst dL_law_401 ?_
  refine x_iadd dL_law_402 ?_
  refine x_scr (j := i + 1) (by omega) (by omega) ⟨by omega, by omega⟩ dL_law_403 ?_
  refine x_aload_n 0 rfl dL_law_404 ?_
  refine x_iload 4 rfl dL_law_405 ?_
  refine x_iconst dL_law_407 ?_
  refine x_iadd dL_law_408 ?_
  refine x_scr (j := i + 2) (by omega) (by omega) ⟨by omega, by omega⟩ dL_law_409 ?_
  refine x_callVi (As := [iV (scOf xs (i + 1)), iV (scOf xs (i + 2))]) (rest := []) cal_X10_letter ins_X10_letter sel_X10_letter ly0 (by decide) rfl (xX10_letter x (scOf xs (i + 1)) (scOf xs (i + 2)) _ _ (scOf_in _ _) (scOf_in _ _) h) rfl ml_L_42 ⟨Nat.le_of_ble_eq_true rfl, Nat.le_of_ble_eq_true rfl⟩ (Nat.le_of_ble_eq_true rfl) dL_law_410 (fun r48 μ46 i49 n47 h => ?_)
  have h := h i49 n47
  refine x_aload_n 2 rfl dL_law_413 ?_
  refine x_aload_n 0 rfl dL_law_414 ?_
  refine x_iload 4 rfl dL_law_415 ?_
  refine x_iconst dL_law_417 ?_
  refine x_iadd dL_law_418 ?_
  refine x_scr (j := i + 1) (by omega) (by omega) ⟨by omega, by omega⟩ dL_law_419 ?_
  refine x_aload_n 0 rfl dL_law_420 ?_
  refine x_iload 4 rfl dL_law_421 ?_
  refine x_iconst dL_law_423 ?_
  refine x_iadd dL_law_424 ?_
  refine x_scr (j := i + 2) (by omega) (by omega) ⟨by omega, by omega⟩ dL_law_425 ?_
  refine x_callVi (As := [iV (scOf xs (i + 1)), iV (scOf xs (i + 2))]) (rest := [iV r48]) cal_X11_letter ins_X11_letter sel_X11_letter ly260 (by decide) rfl (xX11_letter x (scOf xs (i + 1)) (scOf xs (i + 2)) _ _ (scOf_in _ _) (scOf_in _ _) h) rfl ml_L_45 ⟨Nat.le_of_ble_eq_true rfl, Nat.le_of_ble_eq_true rfl⟩ (Nat.le_of_ble_eq_true rfl) dL_law_426 (fun r52 μ50 i53 n51 h => ?_)
  have h := h i53 n51
  obtain ⟨c54, h⟩ := h
  refine x_icmpeq (tgt := 1413) i49 i53 dL_law_429 (by decide) (fun _ => ?_) (fun k => absurd c54 k)
  exact hK _ h
set_option maxRecDepth 100000 in
set_option maxHeartbeats 4000000 in
theorem xl_6 (x : xX) (bS L : Nat) (xs : Nat → Int32) (cs : Nat × Nat) (Qf : List Frame → Array Value → State → State → Prop) (i : Int) (hi0 : 0 ≤ i) (hiL : i + 6 ≤ L) (hL : L ≤ 3072) (μ : xM) (K : xM → Prop) (hK : ∀ ν : xM, K ν → xG x (lY bS L xs x) cs Qf 1413 [(0, .ref bS), (1, .ref (x.2.2.1 + 0)), (2, .ref (x.2.2.1 + 260)), (3, .ref (x.2.2.1 + 280)), (4, iV i)] [] ν) (h : tl_6 (scOf xs) i μ K) : xG x (lY bS L xs x) cs Qf 434 [(0, .ref bS), (1, .ref (x.2.2.1 + 0)), (2, .ref (x.2.2.1 + 260)), (3, .ref (x.2.2.1 + 280)), (4, iV i)] [] μ := by
  have hi : xIn i := ⟨by omega, by omega⟩
  unfold tl_6 at h
  refine x_aload_n 1 rfl dL_law_434 ?_
  refine x_aload_n 0 rfl dL_law_435 ?_
  refine x_iload 4 rfl dL_law_436 ?_
  refine x_iconst dL_law_438 ?_
  refine x_iadd dL_law_439 ?_
  refine x_scr (j := i + 1) (by omega) (by omega) ⟨by omega, by omega⟩ dL_law_440 ?_
  refine x_aload_n 0 rfl dL_law_441 ?_
  refine x_iload 4 rfl dL_law_442 ?_
  refine x_iconst dL_law_444 ?_
  refine x_iadd dL_law_445 ?_
  refine x_scr (j := i + 2) (by omega) (by omega) ⟨by omega, by omega⟩ dL_law_446 ?_
  refine x_callVi (As := [iV (scOf xs (i + 1)), iV (scOf xs (i + 2))]) (rest := []) cal_X10_grows ins_X10_grows sel_X10_grows ly0 (by decide) rfl (xX10_grows x (scOf xs (i + 1)) (scOf xs (i + 2)) _ _ (scOf_in _ _) (scOf_in _ _) h) rfl ml_L_46 ⟨Nat.le_of_ble_eq_true rfl, Nat.le_of_ble_eq_true rfl⟩ (Nat.le_of_ble_eq_true rfl) dL_law_447 (fun r57 μ55 i58 n56 h => ?_)
  have h := h i58 n56
  refine x_aload_n 2 rfl dL_law_450 ?_
  refine x_aload_n 0 rfl dL_law_451 ?_
  refine x_iload 4 rfl dL_law_452 ?_
  refine x_iconst dL_law_454 ?_
  refine x_iadd dL_law_455 ?_
  refine x_scr (j := i + 1) (by omega) (by omega) ⟨by omega, by omega⟩ dL_law_456 ?_
  refine x_aload_n 0 rfl dL_law_457 ?_
  refine x_iload 4 rfl dL_law_458 ?_
  refine x_iconst dL_law_460 ?_
  refine x_iadd dL_law_461 ?_
  refine x_scr (j := i + 2) (by omega) (by omega) ⟨by omega, by omega⟩ dL_law_462 ?_
  refine x_callVi (As := [iV (scOf xs (i + 1)), iV (scOf xs (i + 2))]) (rest := [iV r57]) cal_X11_grows ins_X11_grows sel_X11_grows ly260 (by decide) rfl (xX11_grows x (scOf xs (i + 1)) (scOf xs (i + 2)) _ _ (scOf_in _ _) (scOf_in _ _) h) rfl ml_L_49 ⟨Nat.le_of_ble_eq_true rfl, Nat.le_of_ble_eq_true rfl⟩ (Nat.le_of_ble_eq_true rfl) dL_law_463 (fun r61 μ59 i62 n60 h => ?_)
  have h := h i62 n60
  obtain ⟨c63, h⟩ := h
  refine x_icmpeq (tgt := 1413) i58 i62 dL_law_466 (by decide) (fun _ => ?_) (fun k => absurd c63 k)
  exact hK _ h
set_option maxRecDepth 100000 in
set_option maxHeartbeats 4000000 in
theorem xl_7 (x : xX) (bS L : Nat) (xs : Nat → Int32) (cs : Nat × Nat) (Qf : List Frame → Array Value → State → State → Prop) (i : Int) (hi0 : 0 ≤ i) (hiL : i + 6 ≤ L) (hL : L ≤ 3072) (μ : xM) (K : xM → Prop) (hK : ∀ ν : xM, K ν → xG x (lY bS L xs x) cs Qf 1413 [(0, .ref bS), (1, .ref (x.2.2.1 + 0)), (2, .ref (x.2.2.1 + 260)), (3, .ref (x.2.2.1 + 280)), (4, iV i)] [] ν) (h : tl_7 (scOf xs) i μ K) : xG x (lY bS L xs x) cs Qf 471 [(0, .ref bS), (1, .ref (x.2.2.1 + 0)), (2, .ref (x.2.2.1 + 260)), (3, .ref (x.2.2.1 + 280)), (4, iV i)] [] μ := by
  have hi : xIn i := ⟨by omega, by omega⟩
  unfold tl_7 at h
  refine x_aload_n 1 rfl dL_law_471 ?_
  refine x_aload_n 0 rfl dL_law_472 ?_
  refine x_iload 4 rfl dL_law_473 ?_
  refine x_iconst dL_law_475 ?_
  refine x_iadd dL_law_476 ?_
  refine x_scr (j := i + 1) (by omega) (by omega) ⟨by omega, by omega⟩ dL_law_477 ?_
  refine x_callVi (As := [iV (scOf xs (i + 1))]) (rest := []) cal_X10_chain ins_X10_chain sel_X10_chain ly0 (by decide) rfl (xX10_chain x (scOf xs (i + 1)) _ _ (scOf_in _ _) h) rfl ml_L_50 ⟨Nat.le_of_ble_eq_true rfl, Nat.le_of_ble_eq_true rfl⟩ (Nat.le_of_ble_eq_true rfl) dL_law_478 (fun r66 μ64 i67 n65 h => ?_)
  have h := h i67 n65
  refine x_aload_n 2 rfl dL_law_481 ?_
  refine x_aload_n 0 rfl dL_law_482 ?_
  refine x_iload 4 rfl dL_law_483 ?_
  refine x_iconst dL_law_485 ?_
  refine x_iadd dL_law_486 ?_
  refine x_scr (j := i + 1) (by omega) (by omega) ⟨by omega, by omega⟩ dL_law_487 ?_
  refine x_callVi (As := [iV (scOf xs (i + 1))]) (rest := [iV r66]) cal_X11_chain ins_X11_chain sel_X11_chain ly260 (by decide) rfl (xX11_chain x (scOf xs (i + 1)) _ _ (scOf_in _ _) h) rfl ml_L_53 ⟨Nat.le_of_ble_eq_true rfl, Nat.le_of_ble_eq_true rfl⟩ (Nat.le_of_ble_eq_true rfl) dL_law_488 (fun r70 μ68 i71 n69 h => ?_)
  have h := h i71 n69
  obtain ⟨c72, h⟩ := h
  refine x_icmpeq (tgt := 1413) i67 i71 dL_law_491 (by decide) (fun _ => ?_) (fun k => absurd c72 k)
  exact hK _ h
set_option maxRecDepth 100000 in
set_option maxHeartbeats 4000000 in
theorem xl_8 (x : xX) (bS L : Nat) (xs : Nat → Int32) (cs : Nat × Nat) (Qf : List Frame → Array Value → State → State → Prop) (i : Int) (hi0 : 0 ≤ i) (hiL : i + 6 ≤ L) (hL : L ≤ 3072) (μ : xM) (K : xM → Prop) (hK : ∀ ν : xM, K ν → xG x (lY bS L xs x) cs Qf 1413 [(0, .ref bS), (1, .ref (x.2.2.1 + 0)), (2, .ref (x.2.2.1 + 260)), (3, .ref (x.2.2.1 + 280)), (4, iV i)] [] ν) (h : tl_8 (scOf xs) i μ K) : xG x (lY bS L xs x) cs Qf 496 [(0, .ref bS), (1, .ref (x.2.2.1 + 0)), (2, .ref (x.2.2.1 + 260)), (3, .ref (x.2.2.1 + 280)), (4, iV i)] [] μ := by
  have hi : xIn i := ⟨by omega, by omega⟩
  unfold tl_8 at h
  refine x_aload_n 1 rfl dL_law_496 ?_
  refine x_aload_n 0 rfl dL_law_497 ?_
  refine x_iload 4 rfl dL_law_498 ?_
  refine x_iconst dL_law_500 ?_
  refine x_iadd dL_law_501 ?_
  refine x_scr (j := i + 1) (by omega) (by omega) ⟨by omega, by omega⟩ dL_law_502 ?_
  refine x_aload_n 0 rfl dL_law_503 ?_
  refine x_iload 4 rfl dL_law_504 ?_
  refine x_iconst dL_law_506 ?_
  refine x_iadd dL_law_507 ?_
  refine x_scr (j := i + 2) (by omega) (by omega) ⟨by omega, by omega⟩ dL_law_508 ?_
  refine x_callVi (As := [iV (scOf xs (i + 1)), iV (scOf xs (i + 2))]) (rest := []) cal_X10_ladder ins_X10_ladder sel_X10_ladder ly0 (by decide) rfl (xX10_ladder x (scOf xs (i + 1)) (scOf xs (i + 2)) _ _ (scOf_in _ _) (scOf_in _ _) h) rfl ml_L_54 ⟨Nat.le_of_ble_eq_true rfl, Nat.le_of_ble_eq_true rfl⟩ (Nat.le_of_ble_eq_true rfl) dL_law_509 (fun r75 μ73 i76 n74 h => ?_)
  have h := h i76 n74
  refine x_aload_n 2 rfl dL_law_512 ?_
  refine x_aload_n 0 rfl dL_law_513 ?_
  refine x_iload 4 rfl dL_law_514 ?_
  refine x_iconst dL_law_516 ?_
  refine x_iadd dL_law_517 ?_
  refine x_scr (j := i + 1) (by omega) (by omega) ⟨by omega, by omega⟩ dL_law_518 ?_
  refine x_aload_n 0 rfl dL_law_519 ?_
  refine x_iload 4 rfl dL_law_520 ?_
  refine x_iconst dL_law_522 ?_
  refine x_iadd dL_law_523 ?_
  refine x_scr (j := i + 2) (by omega) (by omega) ⟨by omega, by omega⟩ dL_law_524 ?_
  refine x_callVi (As := [iV (scOf xs (i + 1)), iV (scOf xs (i + 2))]) (rest := [iV r75]) cal_X11_ladder ins_X11_ladder sel_X11_ladder ly260 (by decide) rfl (xX11_ladder x (scOf xs (i + 1)) (scOf xs (i + 2)) _ _ (scOf_in _ _) (scOf_in _ _) h) rfl ml_L_57 ⟨Nat.le_of_ble_eq_true rfl, Nat.le_of_ble_eq_true rfl⟩ (Nat.le_of_ble_eq_true rfl) dL_law_525 (fun r79 μ77 i80 n78 h => ?_)
  have h := h i80 n78
  obtain ⟨c81, h⟩ := h
  refine x_icmpeq (tgt := 1413) i76 i80 dL_law_528 (by decide) (fun _ => ?_) (fun k => absurd c81 k)
  exact hK _ h
set_option maxRecDepth 100000 in
set_option maxHeartbeats 4000000 in
theorem xl_9 (x : xX) (bS L : Nat) (xs : Nat → Int32) (cs : Nat × Nat) (Qf : List Frame → Array Value → State → State → Prop) (i : Int) (hi0 : 0 ≤ i) (hiL : i + 6 ≤ L) (hL : L ≤ 3072) (μ : xM) (K : xM → Prop) (hK : ∀ ν : xM, K ν → xG x (lY bS L xs x) cs Qf 1413 [(0, .ref bS), (1, .ref (x.2.2.1 + 0)), (2, .ref (x.2.2.1 + 260)), (3, .ref (x.2.2.1 + 280)), (4, iV i)] [] ν) (h : tl_9 (scOf xs) i μ K) : xG x (lY bS L xs x) cs Qf 533 [(0, .ref bS), (1, .ref (x.2.2.1 + 0)), (2, .ref (x.2.2.1 + 260)), (3, .ref (x.2.2.1 + 280)), (4, iV i)] [] μ := by
  have hi : xIn i := ⟨by omega, by omega⟩
  unfold tl_9 at h
  refine x_aload_n 1 rfl dL_law_533 ?_
  refine x_aload_n 0 rfl dL_law_534 ?_
  refine x_iload 4 rfl dL_law_535 ?_
  refine x_iconst dL_law_537 ?_
  refine x_iadd dL_law_538 ?_
  refine x_scr (j := i + 1) (by omega) (by omega) ⟨by omega, by omega⟩ dL_law_539 ?_
  refine x_aload_n 0 rfl dL_law_540 ?_
  refine x_iload 4 rfl dL_law_541 ?_
  refine x_iconst dL_law_543 ?_
  refine x_iadd dL_law_544 ?_
  refine x_scr (j := i + 2) (by omega) (by omega) ⟨by omega, by omega⟩ dL_law_545 ?_
  refine x_aload_n 0 rfl dL_law_546 ?_
  refine x_iload 4 rfl dL_law_547 ?_
  refine x_iconst dL_law_549 ?_
  refine x_iadd dL_law_550 ?_
  refine x_scr (j := i + 3) (by omega) (by omega) ⟨by omega, by omega⟩ dL_law_551 ?_
  refine x_callVi (As := [iV (scOf xs (i + 1)), iV (scOf xs (i + 2)), iV (scOf xs (i + 3))]) (rest := []) cal_X10_rung ins_X10_rung sel_X10_rung ly0 (by decide) rfl (xX10_rung x (scOf xs (i + 1)) (scOf xs (i + 2)) (scOf xs (i + 3)) _ _ (scOf_in _ _) (scOf_in _ _) (scOf_in _ _) h) rfl ml_L_58 ⟨Nat.le_of_ble_eq_true rfl, Nat.le_of_ble_eq_true rfl⟩ (Nat.le_of_ble_eq_true rfl) dL_law_552 (fun r84 μ82 i85 n83 h => ?_)
  have h := h i85 n83
  refine x_aload_n 2 rfl dL_law_555 ?_
  refine x_aload_n 0 rfl dL_law_556 ?_
  refine x_iload 4 rfl dL_law_557 ?_
  refine x_iconst dL_law_559 ?_
  refine x_iadd dL_law_560 ?_
  refine x_scr (j := i + 1) (by omega) (by omega) ⟨by omega, by omega⟩ dL_law_561 ?_
  refine x_aload_n 0 rfl dL_law_562 ?_
  refine x_iload 4 rfl dL_law_563 ?_
  refine x_iconst dL_law_565 ?_
  refine x_iadd dL_law_566 ?_
  refine x_scr (j := i + 2) (by omega) (by omega) ⟨by omega, by omega⟩ dL_law_567 ?_
  refine x_aload_n 0 rfl dL_law_568 ?_
  refine x_iload 4 rfl dL_law_569 ?_
  refine x_iconst dL_law_571 ?_
  refine x_iadd dL_law_572 ?_
  refine x_scr (j := i + 3) (by omega) (by omega) ⟨by omega, by omega⟩ dL_law_573 ?_
  refine x_callVi (As := [iV (scOf xs (i + 1)), iV (scOf xs (i + 2)), iV (scOf xs (i + 3))]) (rest := [iV r84]) cal_X11_rung ins_X11_rung sel_X11_rung ly260 (by decide) rfl (xX11_rung x (scOf xs (i + 1)) (scOf xs (i + 2)) (scOf xs (i + 3)) _ _ (scOf_in _ _) (scOf_in _ _) (scOf_in _ _) h) rfl ml_L_62 ⟨Nat.le_of_ble_eq_true rfl, Nat.le_of_ble_eq_true rfl⟩ (Nat.le_of_ble_eq_true rfl) dL_law_574 (fun r88 μ86 i89 n87 h => ?_)
  have h := h i89 n87
  obtain ⟨c90, h⟩ := h
  refine x_icmpeq (tgt := 1413) i85 i89 dL_law_577 (by decide) (fun _ => ?_) (fun k => absurd c90 k)
  exact hK _ h
set_option maxRecDepth 100000 in
set_option maxHeartbeats 4000000 in
theorem xl_10 (x : xX) (bS L : Nat) (xs : Nat → Int32) (cs : Nat × Nat) (Qf : List Frame → Array Value → State → State → Prop) (i : Int) (hi0 : 0 ≤ i) (hiL : i + 6 ≤ L) (hL : L ≤ 3072) (μ : xM) (K : xM → Prop) (hK : ∀ ν : xM, K ν → xG x (lY bS L xs x) cs Qf 1413 [(0, .ref bS), (1, .ref (x.2.2.1 + 0)), (2, .ref (x.2.2.1 + 260)), (3, .ref (x.2.2.1 + 280)), (4, iV i)] [] ν) (h : tl_10 (scOf xs) i μ K) : xG x (lY bS L xs x) cs Qf 582 [(0, .ref bS), (1, .ref (x.2.2.1 + 0)), (2, .ref (x.2.2.1 + 260)), (3, .ref (x.2.2.1 + 280)), (4, iV i)] [] μ := by
  have hi : xIn i := ⟨by omega, by omega⟩
  unfold tl_10 at h
  refine x_aload_n 1 rfl dL_law_582 ?_
  refine x_aload_n 0 rfl dL_law_583 ?_
  refine x_iload 4 rfl dL_law_584 ?_
  refine x_iconst dL_law_586 ?_
  refine x_iadd dL_law_587 ?_
  refine x_scr (j := i + 1) (by omega) (by omega) ⟨by omega, by omega⟩ dL_law_588 ?_
  refine x_callVi (As := [iV (scOf xs (i + 1))]) (rest := []) cal_X10_grundy ins_X10_grundy sel_X10_grundy ly0 (by decide) rfl (xX10_grundy x (scOf xs (i + 1)) _ _ (scOf_in _ _) h) rfl ml_L_63 ⟨Nat.le_of_ble_eq_true rfl, Nat.le_of_ble_eq_true rfl⟩ (Nat.le_of_ble_eq_true rfl) dL_law_589 (fun r93 μ91 i94 n92 h => ?_)
  have h := h i94 n92
  refine x_aload_n 2 rfl dL_law_592 ?_
  refine x_aload_n 0 rfl dL_law_593 ?_
  refine x_iload 4 rfl dL_law_594 ?_
  refine x_iconst dL_law_596 ?_
  refine x_iadd dL_law_597 ?_
  refine x_scr (j := i + 1) (by omega) (by omega) ⟨by omega, by omega⟩ dL_law_598 ?_
  refine x_callVi (As := [iV (scOf xs (i + 1))]) (rest := [iV r93]) cal_X11_grundy ins_X11_grundy sel_X11_grundy ly260 (by decide) rfl (xX11_grundy x (scOf xs (i + 1)) _ _ (scOf_in _ _) h) rfl ml_L_66 ⟨Nat.le_of_ble_eq_true rfl, Nat.le_of_ble_eq_true rfl⟩ (Nat.le_of_ble_eq_true rfl) dL_law_599 (fun r97 μ95 i98 n96 h => ?_)
  have h := h i98 n96
  obtain ⟨c99, h⟩ := h
  refine x_icmpeq (tgt := 1413) i94 i98 dL_law_602 (by decide) (fun _ => ?_) (fun k => absurd c99 k)
  exact hK _ h
set_option maxRecDepth 100000 in
set_option maxHeartbeats 4000000 in
theorem xl_11 (x : xX) (bS L : Nat) (xs : Nat → Int32) (cs : Nat × Nat) (Qf : List Frame → Array Value → State → State → Prop) (i : Int) (hi0 : 0 ≤ i) (hiL : i + 6 ≤ L) (hL : L ≤ 3072) (μ : xM) (K : xM → Prop) (hK : ∀ ν : xM, K ν → xG x (lY bS L xs x) cs Qf 1413 [(0, .ref bS), (1, .ref (x.2.2.1 + 0)), (2, .ref (x.2.2.1 + 260)), (3, .ref (x.2.2.1 + 280)), (4, iV i)] [] ν) (h : tl_11 (scOf xs) i μ K) : xG x (lY bS L xs x) cs Qf 607 [(0, .ref bS), (1, .ref (x.2.2.1 + 0)), (2, .ref (x.2.2.1 + 260)), (3, .ref (x.2.2.1 + 280)), (4, iV i)] [] μ := by
  have hi : xIn i := ⟨by omega, by omega⟩
  unfold tl_11 at h
  refine x_aload_n 1 rfl dL_law_607 ?_
  refine x_callVi (As := []) (rest := []) cal_X10_most ins_X10_most sel_X10_most ly0 (by decide) rfl (xX10_most x  _ _  h) rfl ml_L_67 ⟨Nat.le_of_ble_eq_true rfl, Nat.le_of_ble_eq_true rfl⟩ (Nat.le_of_ble_eq_true rfl) dL_law_608 (fun r102 μ100 i103 n101 h => ?_)
  have h := h i103 n101
  refine x_aload_n 2 rfl dL_law_611 ?_
  refine x_callVi (As := []) (rest := [iV r102]) cal_X11_most ins_X11_most sel_X11_most ly260 (by decide) rfl (xX11_most x  _ _  h) rfl ml_L_70 ⟨Nat.le_of_ble_eq_true rfl, Nat.le_of_ble_eq_true rfl⟩ (Nat.le_of_ble_eq_true rfl) dL_law_612 (fun r106 μ104 i107 n105 h => ?_)
  have h := h i107 n105
  obtain ⟨c108, h⟩ := h
  refine x_icmpeq (tgt := 1413) i103 i107 dL_law_615 (by decide) (fun _ => ?_) (fun k => absurd c108 k)
  exact hK _ h
set_option maxRecDepth 100000 in
set_option maxHeartbeats 4000000 in
theorem xl_12 (x : xX) (bS L : Nat) (xs : Nat → Int32) (cs : Nat × Nat) (Qf : List Frame → Array Value → State → State → Prop) (i : Int) (hi0 : 0 ≤ i) (hiL : i + 6 ≤ L) (hL : L ≤ 3072) (μ : xM) (K : xM → Prop) (hK : ∀ ν : xM, K ν → xG x (lY bS L xs x) cs Qf 1413 [(0, .ref bS), (1, .ref (x.2.2.1 + 0)), (2, .ref (x.2.2.1 + 260)), (3, .ref (x.2.2.1 + 280)), (4, iV i)] [] ν) (h : tl_12 (scOf xs) i μ K) : xG x (lY bS L xs x) cs Qf 620 [(0, .ref bS), (1, .ref (x.2.2.1 + 0)), (2, .ref (x.2.2.1 + 260)), (3, .ref (x.2.2.1 + 280)), (4, iV i)] [] μ := by
  have hi : xIn i := ⟨by omega, by omega⟩
  unfold tl_12 at h
  refine x_aload_n 1 rfl dL_law_620 ?_
  refine x_callVi (As := []) (rest := []) cal_X10_worth ins_X10_worth sel_X10_worth ly0 (by decide) rfl (xX10_worth x  _ _  h) rfl ml_L_71 ⟨Nat.le_of_ble_eq_true rfl, Nat.le_of_ble_eq_true rfl⟩ (Nat.le_of_ble_eq_true rfl) dL_law_621 (fun r111 μ109 i112 n110 h => ?_)
  have h := h i112 n110
  refine x_aload_n 2 rfl dL_law_624 ?_
  refine x_callVi (As := []) (rest := [iV r111]) cal_X11_worth ins_X11_worth sel_X11_worth ly260 (by decide) rfl (xX11_worth x  _ _  h) rfl ml_L_74 ⟨Nat.le_of_ble_eq_true rfl, Nat.le_of_ble_eq_true rfl⟩ (Nat.le_of_ble_eq_true rfl) dL_law_625 (fun r115 μ113 i116 n114 h => ?_)
  have h := h i116 n114
  obtain ⟨c117, h⟩ := h
  refine x_icmpeq (tgt := 1413) i112 i116 dL_law_628 (by decide) (fun _ => ?_) (fun k => absurd c117 k)
  exact hK _ h
set_option maxRecDepth 100000 in
set_option maxHeartbeats 4000000 in
theorem xl_13 (x : xX) (bS L : Nat) (xs : Nat → Int32) (cs : Nat × Nat) (Qf : List Frame → Array Value → State → State → Prop) (i : Int) (hi0 : 0 ≤ i) (hiL : i + 6 ≤ L) (hL : L ≤ 3072) (μ : xM) (K : xM → Prop) (hK : ∀ ν : xM, K ν → xG x (lY bS L xs x) cs Qf 1413 [(0, .ref bS), (1, .ref (x.2.2.1 + 0)), (2, .ref (x.2.2.1 + 260)), (3, .ref (x.2.2.1 + 280)), (4, iV i)] [] ν) (h : tl_13 (scOf xs) i μ K) : xG x (lY bS L xs x) cs Qf 633 [(0, .ref bS), (1, .ref (x.2.2.1 + 0)), (2, .ref (x.2.2.1 + 260)), (3, .ref (x.2.2.1 + 280)), (4, iV i)] [] μ := by
  have hi : xIn i := ⟨by omega, by omega⟩
  unfold tl_13 at h
  refine x_aload_n 1 rfl dL_law_633 ?_
  refine x_aload_n 0 rfl dL_law_634 ?_
  refine x_iload 4 rfl dL_law_635 ?_
  refine x_iconst dL_law_637 ?_
  refine x_iadd dL_law_638 ?_
  refine x_scr (j := i + 1) (by omega) (by omega) ⟨by omega, by omega⟩ dL_law_639 ?_
  refine x_callVi (As := [iV (scOf xs (i + 1))]) (rest := []) cal_X10_plan ins_X10_plan sel_X10_plan ly0 (by decide) rfl (xX10_plan x (scOf xs (i + 1)) _ _ (scOf_in _ _) h) rfl ml_L_75 ⟨Nat.le_of_ble_eq_true rfl, Nat.le_of_ble_eq_true rfl⟩ (Nat.le_of_ble_eq_true rfl) dL_law_640 (fun r120 μ118 i121 n119 h => ?_)
  have h := h i121 n119
  refine x_aload_n 2 rfl dL_law_643 ?_
  refine x_aload_n 0 rfl dL_law_644 ?_
  refine x_iload 4 rfl dL_law_645 ?_
  refine x_iconst dL_law_647 ?_
  refine x_iadd dL_law_648 ?_
  refine x_scr (j := i + 1) (by omega) (by omega) ⟨by omega, by omega⟩ dL_law_649 ?_
  refine x_callVi (As := [iV (scOf xs (i + 1))]) (rest := [iV r120]) cal_X11_plan ins_X11_plan sel_X11_plan ly260 (by decide) rfl (xX11_plan x (scOf xs (i + 1)) _ _ (scOf_in _ _) h) rfl ml_L_78 ⟨Nat.le_of_ble_eq_true rfl, Nat.le_of_ble_eq_true rfl⟩ (Nat.le_of_ble_eq_true rfl) dL_law_650 (fun r124 μ122 i125 n123 h => ?_)
  have h := h i125 n123
  obtain ⟨c126, h⟩ := h
  refine x_icmpeq (tgt := 1413) i121 i125 dL_law_653 (by decide) (fun _ => ?_) (fun k => absurd c126 k)
  exact hK _ h
set_option maxRecDepth 100000 in
set_option maxHeartbeats 4000000 in
theorem xl_14 (x : xX) (bS L : Nat) (xs : Nat → Int32) (cs : Nat × Nat) (Qf : List Frame → Array Value → State → State → Prop) (i : Int) (hi0 : 0 ≤ i) (hiL : i + 6 ≤ L) (hL : L ≤ 3072) (μ : xM) (K : xM → Prop) (hK : ∀ ν : xM, K ν → xG x (lY bS L xs x) cs Qf 1413 [(0, .ref bS), (1, .ref (x.2.2.1 + 0)), (2, .ref (x.2.2.1 + 260)), (3, .ref (x.2.2.1 + 280)), (4, iV i)] [] ν) (h : tl_14 (scOf xs) i μ K) : xG x (lY bS L xs x) cs Qf 658 [(0, .ref bS), (1, .ref (x.2.2.1 + 0)), (2, .ref (x.2.2.1 + 260)), (3, .ref (x.2.2.1 + 280)), (4, iV i)] [] μ := by
  have hi : xIn i := ⟨by omega, by omega⟩
  unfold tl_14 at h
  refine x_aload_n 1 rfl dL_law_658 ?_
  refine x_callVi (As := []) (rest := []) cal_X10_richest ins_X10_richest sel_X10_richest ly0 (by decide) rfl (xX10_richest x  _ _  h) rfl ml_L_79 ⟨Nat.le_of_ble_eq_true rfl, Nat.le_of_ble_eq_true rfl⟩ (Nat.le_of_ble_eq_true rfl) dL_law_659 (fun r129 μ127 i130 n128 h => ?_)
  have h := h i130 n128
  refine x_aload_n 2 rfl dL_law_662 ?_
  refine x_callVi (As := []) (rest := [iV r129]) cal_X11_richest ins_X11_richest sel_X11_richest ly260 (by decide) rfl (xX11_richest x  _ _  h) rfl ml_L_82 ⟨Nat.le_of_ble_eq_true rfl, Nat.le_of_ble_eq_true rfl⟩ (Nat.le_of_ble_eq_true rfl) dL_law_663 (fun r133 μ131 i134 n132 h => ?_)
  have h := h i134 n132
  obtain ⟨c135, h⟩ := h
  refine x_icmpeq (tgt := 1413) i130 i134 dL_law_666 (by decide) (fun _ => ?_) (fun k => absurd c135 k)
  exact hK _ h
set_option maxRecDepth 100000 in
set_option maxHeartbeats 4000000 in
theorem xl_15 (x : xX) (bS L : Nat) (xs : Nat → Int32) (cs : Nat × Nat) (Qf : List Frame → Array Value → State → State → Prop) (i : Int) (hi0 : 0 ≤ i) (hiL : i + 6 ≤ L) (hL : L ≤ 3072) (μ : xM) (K : xM → Prop) (hK : ∀ ν : xM, K ν → xG x (lY bS L xs x) cs Qf 1413 [(0, .ref bS), (1, .ref (x.2.2.1 + 0)), (2, .ref (x.2.2.1 + 260)), (3, .ref (x.2.2.1 + 280)), (4, iV i)] [] ν) (h : tl_15 (scOf xs) i μ K) : xG x (lY bS L xs x) cs Qf 671 [(0, .ref bS), (1, .ref (x.2.2.1 + 0)), (2, .ref (x.2.2.1 + 260)), (3, .ref (x.2.2.1 + 280)), (4, iV i)] [] μ := by
  have hi : xIn i := ⟨by omega, by omega⟩
  unfold tl_15 at h
  refine x_aload_n 1 rfl dL_law_671 ?_
  refine x_callVi (As := []) (rest := []) cal_X10_fewest ins_X10_fewest sel_X10_fewest ly0 (by decide) rfl (xX10_fewest x  _ _  h) rfl ml_L_83 ⟨Nat.le_of_ble_eq_true rfl, Nat.le_of_ble_eq_true rfl⟩ (Nat.le_of_ble_eq_true rfl) dL_law_672 (fun r138 μ136 i139 n137 h => ?_)
  have h := h i139 n137
  refine x_aload_n 2 rfl dL_law_675 ?_
  refine x_callVi (As := []) (rest := [iV r138]) cal_X11_fewest ins_X11_fewest sel_X11_fewest ly260 (by decide) rfl (xX11_fewest x  _ _  h) rfl ml_L_86 ⟨Nat.le_of_ble_eq_true rfl, Nat.le_of_ble_eq_true rfl⟩ (Nat.le_of_ble_eq_true rfl) dL_law_676 (fun r142 μ140 i143 n141 h => ?_)
  have h := h i143 n141
  obtain ⟨c144, h⟩ := h
  refine x_icmpeq (tgt := 1413) i139 i143 dL_law_679 (by decide) (fun _ => ?_) (fun k => absurd c144 k)
  exact hK _ h
set_option maxRecDepth 100000 in
set_option maxHeartbeats 4000000 in
theorem xl_16 (x : xX) (bS L : Nat) (xs : Nat → Int32) (cs : Nat × Nat) (Qf : List Frame → Array Value → State → State → Prop) (i : Int) (hi0 : 0 ≤ i) (hiL : i + 6 ≤ L) (hL : L ≤ 3072) (μ : xM) (K : xM → Prop) (hK : ∀ ν : xM, K ν → xG x (lY bS L xs x) cs Qf 1413 [(0, .ref bS), (1, .ref (x.2.2.1 + 0)), (2, .ref (x.2.2.1 + 260)), (3, .ref (x.2.2.1 + 280)), (4, iV i)] [] ν) (h : tl_16 (scOf xs) i μ K) : xG x (lY bS L xs x) cs Qf 684 [(0, .ref bS), (1, .ref (x.2.2.1 + 0)), (2, .ref (x.2.2.1 + 260)), (3, .ref (x.2.2.1 + 280)), (4, iV i)] [] μ := by
  have hi : xIn i := ⟨by omega, by omega⟩
  unfold tl_16 at h
  refine x_aload_n 1 rfl dL_law_684 ?_
  refine x_callVi (As := []) (rest := []) cal_X10_wanted ins_X10_wanted sel_X10_wanted ly0 (by decide) rfl (xX10_wanted x  _ _  h) rfl ml_L_87 ⟨Nat.le_of_ble_eq_true rfl, Nat.le_of_ble_eq_true rfl⟩ (Nat.le_of_ble_eq_true rfl) dL_law_685 (fun r147 μ145 i148 n146 h => ?_)
  have h := h i148 n146
  refine x_aload_n 2 rfl dL_law_688 ?_
  refine x_callVi (As := []) (rest := [iV r147]) cal_X11_wanted_ ins_X11_wanted_ sel_X11_wanted_ ly260 (by decide) rfl (xX11_wanted_ x  _ _  h) rfl ml_L_90 ⟨Nat.le_of_ble_eq_true rfl, Nat.le_of_ble_eq_true rfl⟩ (Nat.le_of_ble_eq_true rfl) dL_law_689 (fun r151 μ149 i152 n150 h => ?_)
  have h := h i152 n150
  obtain ⟨c153, h⟩ := h
  refine x_icmpeq (tgt := 1413) i148 i152 dL_law_692 (by decide) (fun _ => ?_) (fun k => absurd c153 k)
  exact hK _ h
set_option maxRecDepth 100000 in
set_option maxHeartbeats 4000000 in
theorem xl_17 (x : xX) (bS L : Nat) (xs : Nat → Int32) (cs : Nat × Nat) (Qf : List Frame → Array Value → State → State → Prop) (i : Int) (hi0 : 0 ≤ i) (hiL : i + 6 ≤ L) (hL : L ≤ 3072) (μ : xM) (K : xM → Prop) (hK : ∀ ν : xM, K ν → xG x (lY bS L xs x) cs Qf 1413 [(0, .ref bS), (1, .ref (x.2.2.1 + 0)), (2, .ref (x.2.2.1 + 260)), (3, .ref (x.2.2.1 + 280)), (4, iV i)] [] ν) (h : tl_17 (scOf xs) i μ K) : xG x (lY bS L xs x) cs Qf 697 [(0, .ref bS), (1, .ref (x.2.2.1 + 0)), (2, .ref (x.2.2.1 + 260)), (3, .ref (x.2.2.1 + 280)), (4, iV i)] [] μ := by
  have hi : xIn i := ⟨by omega, by omega⟩
  unfold tl_17 at h
  refine x_aload_n 1 rfl dL_law_697 ?_
  refine x_aload_n 0 rfl dL_law_698 ?_
  refine x_iload 4 rfl dL_law_699 ?_
  refine x_iconst dL_law_701 ?_
  refine x_iadd dL_law_702 ?_
  refine x_scr (j := i + 1) (by omega) (by omega) ⟨by omega, by omega⟩ dL_law_703 ?_
  refine x_callVi (As := [iV (scOf xs (i + 1))]) (rest := []) cal_X10_wants ins_X10_wants sel_X10_wants ly0 (by decide) rfl (xX10_wants x (scOf xs (i + 1)) _ _ (scOf_in _ _) h) rfl ml_L_91 ⟨Nat.le_of_ble_eq_true rfl, Nat.le_of_ble_eq_true rfl⟩ (Nat.le_of_ble_eq_true rfl) dL_law_704 (fun r156 μ154 i157 n155 h => ?_)
  have h := h i157 n155
  refine x_aload_n 2 rfl dL_law_707 ?_
  refine x_aload_n 0 rfl dL_law_708 ?_
  refine x_iload 4 rfl dL_law_709 ?_
  refine x_iconst dL_law_711 ?_
  refine x_iadd dL_law_712 ?_
  refine x_scr (j := i + 1) (by omega) (by omega) ⟨by omega, by omega⟩ dL_law_713 ?_
  refine x_callVi (As := [iV (scOf xs (i + 1))]) (rest := [iV r156]) cal_X11_wants ins_X11_wants sel_X11_wants ly260 (by decide) rfl (xX11_wants x (scOf xs (i + 1)) _ _ (scOf_in _ _) h) rfl ml_L_94 ⟨Nat.le_of_ble_eq_true rfl, Nat.le_of_ble_eq_true rfl⟩ (Nat.le_of_ble_eq_true rfl) dL_law_714 (fun r160 μ158 i161 n159 h => ?_)
  have h := h i161 n159
  obtain ⟨c162, h⟩ := h
  refine x_icmpeq (tgt := 1413) i157 i161 dL_law_717 (by decide) (fun _ => ?_) (fun k => absurd c162 k)
  exact hK _ h
set_option maxRecDepth 100000 in
set_option maxHeartbeats 4000000 in
theorem xl_18 (x : xX) (bS L : Nat) (xs : Nat → Int32) (cs : Nat × Nat) (Qf : List Frame → Array Value → State → State → Prop) (i : Int) (hi0 : 0 ≤ i) (hiL : i + 6 ≤ L) (hL : L ≤ 3072) (μ : xM) (K : xM → Prop) (hK : ∀ ν : xM, K ν → xG x (lY bS L xs x) cs Qf 1413 [(0, .ref bS), (1, .ref (x.2.2.1 + 0)), (2, .ref (x.2.2.1 + 260)), (3, .ref (x.2.2.1 + 280)), (4, iV i)] [] ν) (h : tl_18 (scOf xs) i μ K) : xG x (lY bS L xs x) cs Qf 722 [(0, .ref bS), (1, .ref (x.2.2.1 + 0)), (2, .ref (x.2.2.1 + 260)), (3, .ref (x.2.2.1 + 280)), (4, iV i)] [] μ := by
  have hi : xIn i := ⟨by omega, by omega⟩
  unfold tl_18 at h
  refine x_aload_n 1 rfl dL_law_722 ?_
  refine x_aload_n 0 rfl dL_law_723 ?_
  refine x_iload 4 rfl dL_law_724 ?_
  refine x_iconst dL_law_726 ?_
  refine x_iadd dL_law_727 ?_
  refine x_scr (j := i + 1) (by omega) (by omega) ⟨by omega, by omega⟩ dL_law_728 ?_
  refine x_callVi (As := [iV (scOf xs (i + 1))]) (rest := []) cal_X10_gains ins_X10_gains sel_X10_gains ly0 (by decide) rfl (xX10_gains x (scOf xs (i + 1)) _ _ (scOf_in _ _) h) rfl ml_L_95 ⟨Nat.le_of_ble_eq_true rfl, Nat.le_of_ble_eq_true rfl⟩ (Nat.le_of_ble_eq_true rfl) dL_law_729 (fun r165 μ163 i166 n164 h => ?_)
  have h := h i166 n164
  refine x_aload_n 2 rfl dL_law_732 ?_
  refine x_aload_n 0 rfl dL_law_733 ?_
  refine x_iload 4 rfl dL_law_734 ?_
  refine x_iconst dL_law_736 ?_
  refine x_iadd dL_law_737 ?_
  refine x_scr (j := i + 1) (by omega) (by omega) ⟨by omega, by omega⟩ dL_law_738 ?_
  refine x_callVi (As := [iV (scOf xs (i + 1))]) (rest := [iV r165]) cal_X11_gains ins_X11_gains sel_X11_gains ly260 (by decide) rfl (xX11_gains x (scOf xs (i + 1)) _ _ (scOf_in _ _) h) rfl ml_L_98 ⟨Nat.le_of_ble_eq_true rfl, Nat.le_of_ble_eq_true rfl⟩ (Nat.le_of_ble_eq_true rfl) dL_law_739 (fun r169 μ167 i170 n168 h => ?_)
  have h := h i170 n168
  obtain ⟨c171, h⟩ := h
  refine x_icmpeq (tgt := 1413) i166 i170 dL_law_742 (by decide) (fun _ => ?_) (fun k => absurd c171 k)
  exact hK _ h
set_option maxRecDepth 100000 in
set_option maxHeartbeats 4000000 in
theorem xl_19 (x : xX) (bS L : Nat) (xs : Nat → Int32) (cs : Nat × Nat) (Qf : List Frame → Array Value → State → State → Prop) (i : Int) (hi0 : 0 ≤ i) (hiL : i + 6 ≤ L) (hL : L ≤ 3072) (μ : xM) (K : xM → Prop) (hK : ∀ ν : xM, K ν → xG x (lY bS L xs x) cs Qf 1413 [(0, .ref bS), (1, .ref (x.2.2.1 + 0)), (2, .ref (x.2.2.1 + 260)), (3, .ref (x.2.2.1 + 280)), (4, iV i)] [] ν) (h : tl_19 (scOf xs) i μ K) : xG x (lY bS L xs x) cs Qf 747 [(0, .ref bS), (1, .ref (x.2.2.1 + 0)), (2, .ref (x.2.2.1 + 260)), (3, .ref (x.2.2.1 + 280)), (4, iV i)] [] μ := by
  have hi : xIn i := ⟨by omega, by omega⟩
  unfold tl_19 at h
  refine x_aload_n 1 rfl dL_law_747 ?_
  refine x_aload_n 0 rfl dL_law_748 ?_
  refine x_iload 4 rfl dL_law_749 ?_
  refine x_iconst dL_law_751 ?_
  refine x_iadd dL_law_752 ?_
  refine x_scr (j := i + 1) (by omega) (by omega) ⟨by omega, by omega⟩ dL_law_753 ?_
  refine x_callVz (As := [iV (scOf xs (i + 1))]) (rest := []) cal_X10_night ins_X10_night sel_X10_night ly0 (by decide) rfl (xX10_night x (scOf xs (i + 1)) _ _ (scOf_in _ _) h) rfl ml_L_99 ⟨Nat.le_of_ble_eq_true rfl, Nat.le_of_ble_eq_true rfl⟩ (Nat.le_of_ble_eq_true rfl) dL_law_754 (fun r174 μ172 i175 n173 h => ?_)
  have h := h i175 n173
  refine x_aload_n 2 rfl dL_law_757 ?_
  refine x_aload_n 0 rfl dL_law_758 ?_
  refine x_iload 4 rfl dL_law_759 ?_
  refine x_iconst dL_law_761 ?_
  refine x_iadd dL_law_762 ?_
  refine x_scr (j := i + 1) (by omega) (by omega) ⟨by omega, by omega⟩ dL_law_763 ?_
  refine x_callVz (As := [iV (scOf xs (i + 1))]) (rest := [iV r174]) cal_X11_night ins_X11_night sel_X11_night ly260 (by decide) rfl (xX11_night x (scOf xs (i + 1)) _ _ (scOf_in _ _) h) rfl ml_L_103 ⟨Nat.le_of_ble_eq_true rfl, Nat.le_of_ble_eq_true rfl⟩ (Nat.le_of_ble_eq_true rfl) dL_law_764 (fun r178 μ176 i179 n177 h => ?_)
  have h := h i179 n177
  obtain ⟨c180, h⟩ := h
  refine x_icmpeq (tgt := 1413) (xIz i175) (xIz i179) dL_law_767 (by decide) (fun _ => ?_) (fun k => absurd c180 k)
  exact hK _ h
set_option maxRecDepth 100000 in
set_option maxHeartbeats 4000000 in
theorem xl_20 (x : xX) (bS L : Nat) (xs : Nat → Int32) (cs : Nat × Nat) (Qf : List Frame → Array Value → State → State → Prop) (i : Int) (hi0 : 0 ≤ i) (hiL : i + 6 ≤ L) (hL : L ≤ 3072) (μ : xM) (K : xM → Prop) (hK : ∀ ν : xM, K ν → xG x (lY bS L xs x) cs Qf 1413 [(0, .ref bS), (1, .ref (x.2.2.1 + 0)), (2, .ref (x.2.2.1 + 260)), (3, .ref (x.2.2.1 + 280)), (4, iV i)] [] ν) (h : tl_20 (scOf xs) i μ K) : xG x (lY bS L xs x) cs Qf 772 [(0, .ref bS), (1, .ref (x.2.2.1 + 0)), (2, .ref (x.2.2.1 + 260)), (3, .ref (x.2.2.1 + 280)), (4, iV i)] [] μ := by
  have hi : xIn i := ⟨by omega, by omega⟩
  unfold tl_20 at h
  refine x_aload_n 1 rfl dL_law_772 ?_
  refine x_aload_n 0 rfl dL_law_773 ?_
  refine x_iload 4 rfl dL_law_774 ?_
  refine x_iconst dL_law_776 ?_
  refine x_iadd dL_law_777 ?_
  refine x_scr (j := i + 1) (by omega) (by omega) ⟨by omega, by omega⟩ dL_law_778 ?_
  refine x_callVi (As := [iV (scOf xs (i + 1))]) (rest := []) cal_X10_come ins_X10_come sel_X10_come ly0 (by decide) rfl (xX10_come x (scOf xs (i + 1)) _ _ (scOf_in _ _) h) rfl ml_L_104 ⟨Nat.le_of_ble_eq_true rfl, Nat.le_of_ble_eq_true rfl⟩ (Nat.le_of_ble_eq_true rfl) dL_law_779 (fun r183 μ181 i184 n182 h => ?_)
  have h := h i184 n182
  refine x_aload_n 2 rfl dL_law_782 ?_
  refine x_aload_n 0 rfl dL_law_783 ?_
  refine x_iload 4 rfl dL_law_784 ?_
  refine x_iconst dL_law_786 ?_
  refine x_iadd dL_law_787 ?_
  refine x_scr (j := i + 1) (by omega) (by omega) ⟨by omega, by omega⟩ dL_law_788 ?_
  refine x_callVi (As := [iV (scOf xs (i + 1))]) (rest := [iV r183]) cal_X11_come ins_X11_come sel_X11_come ly260 (by decide) rfl (xX11_come x (scOf xs (i + 1)) _ _ (scOf_in _ _) h) rfl ml_L_107 ⟨Nat.le_of_ble_eq_true rfl, Nat.le_of_ble_eq_true rfl⟩ (Nat.le_of_ble_eq_true rfl) dL_law_789 (fun r187 μ185 i188 n186 h => ?_)
  have h := h i188 n186
  obtain ⟨c189, h⟩ := h
  refine x_icmpeq (tgt := 1413) i184 i188 dL_law_792 (by decide) (fun _ => ?_) (fun k => absurd c189 k)
  exact hK _ h
set_option maxRecDepth 100000 in
set_option maxHeartbeats 4000000 in
theorem xl_21 (x : xX) (bS L : Nat) (xs : Nat → Int32) (cs : Nat × Nat) (Qf : List Frame → Array Value → State → State → Prop) (i : Int) (hi0 : 0 ≤ i) (hiL : i + 6 ≤ L) (hL : L ≤ 3072) (μ : xM) (K : xM → Prop) (hK : ∀ ν : xM, K ν → xG x (lY bS L xs x) cs Qf 1413 [(0, .ref bS), (1, .ref (x.2.2.1 + 0)), (2, .ref (x.2.2.1 + 260)), (3, .ref (x.2.2.1 + 280)), (4, iV i)] [] ν) (h : tl_21 (scOf xs) i μ K) : xG x (lY bS L xs x) cs Qf 797 [(0, .ref bS), (1, .ref (x.2.2.1 + 0)), (2, .ref (x.2.2.1 + 260)), (3, .ref (x.2.2.1 + 280)), (4, iV i)] [] μ := by
  have hi : xIn i := ⟨by omega, by omega⟩
  unfold tl_21 at h
  refine x_aload_n 1 rfl dL_law_797 ?_
  refine x_aload_n 0 rfl dL_law_798 ?_
  refine x_iload 4 rfl dL_law_799 ?_
  refine x_iconst dL_law_801 ?_
  refine x_iadd dL_law_802 ?_
  refine x_scr (j := i + 1) (by omega) (by omega) ⟨by omega, by omega⟩ dL_law_803 ?_
  refine x_aload_n 0 rfl dL_law_804 ?_
  refine x_iload 4 rfl dL_law_805 ?_
  refine x_iconst dL_law_807 ?_
  refine x_iadd dL_law_808 ?_
  refine x_scr (j := i + 2) (by omega) (by omega) ⟨by omega, by omega⟩ dL_law_809 ?_
  refine x_callVz (As := [iV (scOf xs (i + 1)), iV (scOf xs (i + 2))]) (rest := []) cal_X10_seat ins_X10_seat sel_X10_seat ly0 (by decide) rfl (xX10_seat x (scOf xs (i + 1)) (scOf xs (i + 2)) _ _ (scOf_in _ _) (scOf_in _ _) h) rfl ml_L_108 ⟨Nat.le_of_ble_eq_true rfl, Nat.le_of_ble_eq_true rfl⟩ (Nat.le_of_ble_eq_true rfl) dL_law_810 (fun r192 μ190 i193 n191 h => ?_)
  have h := h i193 n191
  refine x_aload_n 2 rfl dL_law_813 ?_
  refine x_aload_n 0 rfl dL_law_814 ?_
  refine x_iload 4 rfl dL_law_815 ?_
  refine x_iconst dL_law_817 ?_
  refine x_iadd dL_law_818 ?_
  refine x_scr (j := i + 1) (by omega) (by omega) ⟨by omega, by omega⟩ dL_law_819 ?_
  refine x_aload_n 0 rfl dL_law_820 ?_
  refine x_iload 4 rfl dL_law_821 ?_
  refine x_iconst dL_law_823 ?_
  refine x_iadd dL_law_824 ?_
  refine x_scr (j := i + 2) (by omega) (by omega) ⟨by omega, by omega⟩ dL_law_825 ?_
  refine x_callVz (As := [iV (scOf xs (i + 1)), iV (scOf xs (i + 2))]) (rest := [iV r192]) cal_X11_seat ins_X11_seat sel_X11_seat ly260 (by decide) rfl (xX11_seat x (scOf xs (i + 1)) (scOf xs (i + 2)) _ _ (scOf_in _ _) (scOf_in _ _) h) rfl ml_L_112 ⟨Nat.le_of_ble_eq_true rfl, Nat.le_of_ble_eq_true rfl⟩ (Nat.le_of_ble_eq_true rfl) dL_law_826 (fun r196 μ194 i197 n195 h => ?_)
  have h := h i197 n195
  obtain ⟨c198, h⟩ := h
  refine x_icmpeq (tgt := 1413) (xIz i193) (xIz i197) dL_law_829 (by decide) (fun _ => ?_) (fun k => absurd c198 k)
  exact hK _ h
