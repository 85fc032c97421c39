theorem x_128 {P : Int → Prop} (h : ∀ n : Fin 128, P (n.val : Int)) {a : Int} (h0 : 0 ≤ a) (h1 : a < 128) : P a := by
  have := h ⟨a.toNat, by omega⟩
  rwa [show ((a.toNat : Nat) : Int) = a by omega] at this
theorem x_i2c0 {a : Int} (h0 : 0 ≤ a) (h1 : a < 128) : ((Int32.ofInt a).toUInt32 % 65536).toInt32 = Int32.ofInt a := x_128 (P := fun a => ((Int32.ofInt a).toUInt32 % 65536).toInt32 = Int32.ofInt a) (by decide +kernel) h0 h1
theorem xAnd_255 {a : Int} (h0 : 0 ≤ a) (h1 : a < 128) : xAnd a 255 = a := x_128 (P := fun a => xAnd a 255 = a) (by decide +kernel) h0 h1
theorem sChr_n {a : Int} (h0 : 0 ≤ a) (h1 : a < 128) : narrow .char (iV a) = iV a := congrArg Value.int (x_128 (P := fun a => (Int32.ofInt a).toUInt32.toUInt16.toUInt32.toInt32 = Int32.ofInt a) (by decide +kernel) h0 h1)
theorem sChr_b {i : Nat} {j : Int} (hi : i < 13) (h0 : 0 ≤ j) (h1 : j < sLen i) : 0 ≤ sChr i j ∧ sChr i j < 128 := by
  have key : ∀ l ∈ xSByt, ∀ q ∈ l, 0 ≤ q.toInt ∧ q.toInt < 128 := by decide +kernel
  unfold sChr
  rw [List.getD_eq_getElem?_getD, List.getD_eq_getElem?_getD]
  cases h2 : xSByt[i]? with
  | none => simp
  | some l =>
    cases h3 : l[j.toNat]? with
    | none => simp [h3]
    | some q => simpa [h3] using key l (List.mem_of_getElem? h2) q (List.mem_of_getElem? h3)
theorem x_ldcS {x : xX} {y : xY} {cs : Nat × Nat} {Qf : List Frame → Array Value → State → State → Prop} {pc : Nat} {lv : List (Nat × Value)} {st : List Value} {μ : xM} {idx i : Nat} {tx : String} (q : Nat) (hq : xSTab[q]? = some (y.2.1, idx, tx, i)) (hd : decode y.2.2.1 pc = .ok (.ldc idx, 2)) (k : xG x y cs Qf (pc + 2) lv (.ref (x.2.2.2.1 i) :: st) μ) : xG x y cs Qf pc lv st μ := by
  intro p e s m args below meth c H locs ls hC hcs hR hS hl
  obtain ⟨hx, hb, hr, hml, hown, hts, hlk, hU, hφ⟩ := hC
  exact va_ldcS hx hb hown (hU.2.1 _ (List.mem_of_getElem? hq)) hd (k p e s m args below meth c H locs ls ⟨hx, hb, hr, hml, hown, hts, hlk, hU, hφ⟩ hcs hR hS hl)
theorem x_max {x : xX} {y : xY} {cs : Nat × Nat} {Qf : List Frame → Array Value → State → State → Prop} {pc : Nat} {lv : List (Nat × Value)} {st : List Value} {μ : xM} {idx : Nat} {a c1 : Int} (ha : xIn a) (hc : xIn c1) (hl : Cond.methodLink y.2.1 idx yJ9_max_7cf53 ∈ xTb) (hr : 1 ≤ y.1.frames ∧ 40 ≤ y.1.locals) (hs : (st.map fun v => v.category).sum ≤ 8) (hd : decode y.2.2.1 pc = .ok (.invokestatic idx, 3)) (k : xG x y cs Qf (pc + 3) lv (iV (max a c1) :: st) μ) : xG x y cs Qf pc lv (iV c1 :: iV a :: st) μ := by
  intro p e s m args below meth c H locs ls hC hcs hR hS hlv
  obtain ⟨hx, hb, hre, hml, hown, hts, hlk, hU, hφ⟩ := hC
  refine va_mmax hx hb (hml.trans hlv.1.symm) hown (hts _ hl) (hts _ sta_mmax) (hts _ ini_math) (hts _ cod_mmax) hr.1 (by have := hr.2; omega) hcs.1 hcs.2 hd ?_
  have hk := k p e s m args below meth c H locs ls ⟨hx, hb, hre, hml, hown, hts, hlk, hU, hφ⟩ hcs hR hS hlv
  have e1 : (if Int32.ofInt a < Int32.ofInt c1 then Int32.ofInt c1 else Int32.ofInt a) = Int32.ofInt (max a c1) := by
    split
    · rename_i q
      rw [xI_lt ha hc] at q
      congr 1
      omega
    · rename_i q
      rw [xI_lt ha hc] at q
      congr 1
      omega
  rw [e1]
  exact hk
theorem x_min {x : xX} {y : xY} {cs : Nat × Nat} {Qf : List Frame → Array Value → State → State → Prop} {pc : Nat} {lv : List (Nat × Value)} {st : List Value} {μ : xM} {idx : Nat} {a c1 : Int} (ha : xIn a) (hc : xIn c1) (hl : Cond.methodLink y.2.1 idx yJ9_min_7cf53 ∈ xTb) (hr : 1 ≤ y.1.frames ∧ 40 ≤ y.1.locals) (hs : (st.map fun v => v.category).sum ≤ 8) (hd : decode y.2.2.1 pc = .ok (.invokestatic idx, 3)) (k : xG x y cs Qf (pc + 3) lv (iV (min a c1) :: st) μ) : xG x y cs Qf pc lv (iV c1 :: iV a :: st) μ := by
  intro p e s m args below meth c H locs ls hC hcs hR hS hlv
  obtain ⟨hx, hb, hre, hml, hown, hts, hlk, hU, hφ⟩ := hC
  refine va_mmin hx hb (hml.trans hlv.1.symm) hown (hts _ hl) (hts _ sta_mmin) (hts _ ini_math) (hts _ cod_mmin) hr.1 (by have := hr.2; omega) hcs.1 hcs.2 hd ?_
  have hk := k p e s m args below meth c H locs ls ⟨hx, hb, hre, hml, hown, hts, hlk, hU, hφ⟩ hcs hR hS hlv
  have e1 : (if Int32.ofInt c1 < Int32.ofInt a then Int32.ofInt c1 else Int32.ofInt a) = Int32.ofInt (min a c1) := by
    split
    · rename_i q
      rw [xI_lt hc ha] at q
      congr 1
      omega
    · rename_i q
      rw [xI_lt hc ha] at q
      congr 1
      omega
  rw [e1]
  exact hk

set_option maxRecDepth 100000 in
theorem cal_J0_coder_7d493 : xCal yJ0_coder_7d493 cJ0_coder_7d493 1 (some .byte) 0 := ⟨tl3 64 rfl, tc1 15 rfl rfl, ⟨by decide +kernel, by decide +kernel, by decide +kernel⟩, by decide⟩
set_option maxRecDepth 100000 in
theorem ins_J0_coder_7d493 : Cond.instanceMethod yJ0_coder_7d493 ∈ xTb := tc3 62 rfl rfl
set_option maxRecDepth 100000 in
theorem sel_J0_coder_7d493 : Cond.selects RJ0 yJ0_coder_7d493 yJ0_coder_7d493 ∈ xTb := tc3 63 rfl rfl
set_option maxRecDepth 100000 in
theorem cal_J0_length_8abf5 : xCal yJ0_length_8abf5 cJ0_length_8abf5 1 (some .int) 0 := ⟨tl3 60 rfl, tc1 15 rfl rfl, ⟨by decide +kernel, by decide +kernel, by decide +kernel⟩, by decide⟩
set_option maxRecDepth 100000 in
theorem ins_J0_length_8abf5 : Cond.instanceMethod yJ0_length_8abf5 ∈ xTb := tc3 58 rfl rfl
set_option maxRecDepth 100000 in
theorem sel_J0_length_8abf5 : Cond.selects RJ0 yJ0_length_8abf5 yJ0_length_8abf5 ∈ xTb := tc3 59 rfl rfl
set_option maxRecDepth 100000 in
theorem cal_J0_charAt_5068e : xCal yJ0_charAt_5068e cJ0_charAt_5068e 2 (some .char) 1 := ⟨tl3 70 rfl, tc1 15 rfl rfl, ⟨by decide +kernel, by decide +kernel, by decide +kernel⟩, by decide⟩
set_option maxRecDepth 100000 in
theorem ins_J0_charAt_5068e : Cond.instanceMethod yJ0_charAt_5068e ∈ xTb := tc3 68 rfl rfl
set_option maxRecDepth 100000 in
theorem sel_J0_charAt_5068e : Cond.selects RJ0 yJ0_charAt_5068e yJ0_charAt_5068e ∈ xTb := tc3 69 rfl rfl
set_option maxRecDepth 100000 in
theorem cal_J0_isLatin1_aae02 : xCal yJ0_isLatin1_aae02 cJ0_isLatin1_aae02 1 (some .boolean) 0 := ⟨tl3 74 rfl, tc1 15 rfl rfl, ⟨by decide +kernel, by decide +kernel, by decide +kernel⟩, by decide⟩
set_option maxRecDepth 100000 in
theorem ins_J0_isLatin1_aae02 : Cond.instanceMethod yJ0_isLatin1_aae02 ∈ xTb := tc3 72 rfl rfl
set_option maxRecDepth 100000 in
theorem sel_J0_isLatin1_aae02 : Cond.selects RJ0 yJ0_isLatin1_aae02 yJ0_isLatin1_aae02 ∈ xTb := tc3 73 rfl rfl
set_option maxRecDepth 100000 in
theorem cal_J1_charAt_3b067 : xCal yJ1_charAt_3b067 cJ1_charAt_3b067 2 (some .char) 2 := ⟨tl3 77 rfl, tc1 16 rfl rfl, ⟨by decide +kernel, by decide +kernel, by decide +kernel⟩, by decide⟩
set_option maxRecDepth 100000 in
theorem sta_J1_charAt_3b067 : Cond.static yJ1_charAt_3b067 ∈ xTb := tc3 76 rfl rfl
set_option maxRecDepth 100000 in
theorem cal_J0_checkIndex_df160 : xCal yJ0_checkIndex_df160 cJ0_checkIndex_df160 2 none 2 := ⟨tl3 80 rfl, tc1 15 rfl rfl, ⟨by decide +kernel, by decide +kernel, by decide +kernel⟩, by decide⟩
set_option maxRecDepth 100000 in
theorem sta_J0_checkIndex_df160 : Cond.static yJ0_checkIndex_df160 ∈ xTb := tc3 79 rfl rfl
set_option maxRecDepth 100000 in
theorem cal_J3_checkIndex_8e157 : xCal yJ3_checkIndex_8e157 cJ3_checkIndex_8e157 3 (some .int) 3 := ⟨tl3 85 rfl, tc1 17 rfl rfl, ⟨by decide +kernel, by decide +kernel, by decide +kernel⟩, by decide⟩
set_option maxRecDepth 100000 in
theorem sta_J3_checkIndex_8e157 : Cond.static yJ3_checkIndex_8e157 ∈ xTb := tc3 84 rfl rfl
set_option maxRecDepth 100000 in
theorem ml_J0_335 : Cond.methodLink RJ0 335 yJ0_coder_7d493 ∈ xTb := tc3 61 rfl rfl
set_option maxRecDepth 100000 in
theorem ml_J0_492 : Cond.methodLink RJ0 492 yJ0_isLatin1_aae02 ∈ xTb := tc3 71 rfl rfl
set_option maxRecDepth 100000 in
theorem ml_J0_495 : Cond.methodLink RJ0 495 yJ1_charAt_3b067 ∈ xTb := tc3 75 rfl rfl
set_option maxRecDepth 100000 in
theorem ml_J1_9 : Cond.methodLink RJ1 9 yJ0_checkIndex_df160 ∈ xTb := tc3 78 rfl rfl
set_option maxRecDepth 100000 in
theorem ml_J0_1059 : Cond.methodLink RJ0 1059 yJ3_checkIndex_8e157 ∈ xTb := tc3 83 rfl rfl
set_option maxRecDepth 100000 in
theorem fl_J0_38 : Cond.fieldLink RJ0 38 "java/lang/String" "COMPACT_STRINGS" "Z" ∈ xTb := tc3 65 rfl rfl
set_option maxRecDepth 100000 in
theorem fl_J0_1053 : Cond.fieldLink RJ0 1053 "jdk/internal/util/Preconditions" "SIOOBE_FORMATTER" "Ljava/util/function/BiFunction;" ∈ xTb := tc3 81 rfl rfl
set_option maxRecDepth 100000 in
theorem fl_J0_9 : Cond.fieldLink RJ0 9 "java/lang/String" "value" "[B" ∈ xTb := tc9 116 rfl rfl
set_option maxRecDepth 100000 in
theorem fl_J0_15 : Cond.fieldLink RJ0 15 "java/lang/String" "coder" "B" ∈ xTb := tc9 117 rfl rfl
theorem x_gsC {x : xX} {rm : Room} {Φ : State → Code → Prop} {nL : Nat} {cc : ByteArray} {ret : Option FieldType} {cs : Nat × Nat} {Qf : List Frame → Array Value → State → State → Prop} {pc : Nat} {lv : List (Nat × Value)} {st : List Value} {μ : xM} (hd : decode cc pc = .ok (.getstatic 38, 3)) (k : xG x (rm, RJ0, cc, nL, ret, Φ) cs Qf (pc + 3) lv (iV 1 :: st) μ) : xG x (rm, RJ0, cc, nL, ret, Φ) cs Qf pc lv st μ := by
  intro p e s m args below meth c H locs ls hC hcs hR hS hl
  obtain ⟨hx, hb, hr, hml, hown, hts, hlk, hU, hφ⟩ := hC
  exact va_gets hx hb hU.2.2.2.1 hS hown (hts _ fl_J0_38) (fun _ h => h) hd (k p e s m args below meth c H locs ls ⟨hx, hb, hr, hml, hown, hts, hlk, hU, hφ⟩ hcs hR hS hl)
theorem x_gsF {x : xX} {rm : Room} {Φ : State → Code → Prop} {nL : Nat} {cc : ByteArray} {ret : Option FieldType} {cs : Nat × Nat} {Qf : List Frame → Array Value → State → State → Prop} {pc : Nat} {lv : List (Nat × Value)} {st : List Value} {μ : xM} (hd : decode cc pc = .ok (.getstatic 1053, 3)) (kN : xG x (rm, RJ0, cc, nL, ret, Φ) cs Qf (pc + 3) lv (.null :: st) μ) (kR : ∀ t : Nat, xG x (rm, RJ0, cc, nL, ret, Φ) cs Qf (pc + 3) lv (.ref t :: st) μ) : xG x (rm, RJ0, cc, nL, ret, Φ) cs Qf pc lv st μ := by
  intro p e s m args below meth c H locs ls hC hcs hR hS hl
  obtain ⟨hx, hb, hr, hml, hown, hts, hlk, hU, hφ⟩ := hC
  rcases hU.2.2.2.2 with h | ⟨t, h⟩
  · exact va_gets hx hb h hS hown (hts _ fl_J0_1053) (fun _ h => h) hd (kN p e s m args below meth c H locs ls ⟨hx, hb, hr, hml, hown, hts, hlk, hU, hφ⟩ hcs hR hS hl)
  · exact va_gets hx hb h hS hown (hts _ fl_J0_1053) (fun _ h => h) hd (kR t p e s m args below meth c H locs ls ⟨hx, hb, hr, hml, hown, hts, hlk, hU, hφ⟩ hcs hR hS hl)
theorem x_scod {x : xX} {rm : Room} {Φ : State → Code → Prop} {nL : Nat} {cc : ByteArray} {ret : Option FieldType} {cs : Nat × Nat} {Qf : List Frame → Array Value → State → State → Prop} {pc : Nat} {lv : List (Nat × Value)} {st : List Value} {μ : xM} {i : Nat} (hi : i < 13) (hd : decode cc pc = .ok (.getfield 15, 3)) (k : xG x (rm, RJ0, cc, nL, ret, Φ) cs Qf (pc + 3) lv (iV 0 :: st) μ) : xG x (rm, RJ0, cc, nL, ret, Φ) cs Qf pc lv (.ref (x.2.2.2.1 i) :: st) μ := by
  intro p e s m args below meth c H locs ls hC hcs hR hS hl
  obtain ⟨hx, hb, hr, hml, hown, hts, hlk, hU, hφ⟩ := hC
  exact vk_getf hx hb (hU.2.2.1.1 i hi).2.1 hS hown (hts _ fl_J0_15) (fun _ h => h) hd (k p e s m args below meth c H locs ls ⟨hx, hb, hr, hml, hown, hts, hlk, hU, hφ⟩ hcs hR hS hl)
theorem x_sval {x : xX} {rm : Room} {Φ : State → Code → Prop} {nL : Nat} {cc : ByteArray} {ret : Option FieldType} {cs : Nat × Nat} {Qf : List Frame → Array Value → State → State → Prop} {pc : Nat} {lv : List (Nat × Value)} {st : List Value} {μ : xM} {i : Nat} (hi : i < 13) (hd : decode cc pc = .ok (.getfield 9, 3)) (k : xG x (rm, RJ0, cc, nL, ret, Φ) cs Qf (pc + 3) lv (.ref (x.2.2.2.2 i) :: st) μ) : xG x (rm, RJ0, cc, nL, ret, Φ) cs Qf pc lv (.ref (x.2.2.2.1 i) :: st) μ := by
  intro p e s m args below meth c H locs ls hC hcs hR hS hl
  obtain ⟨hx, hb, hr, hml, hown, hts, hlk, hU, hφ⟩ := hC
  exact vk_getf hx hb (hU.2.2.1.1 i hi).2.2.1 hS hown (hts _ fl_J0_9) (fun _ h => h) hd (k p e s m args below meth c H locs ls ⟨hx, hb, hr, hml, hown, hts, hlk, hU, hφ⟩ hcs hR hS hl)
theorem x_sbl {x : xX} {y : xY} {cs : Nat × Nat} {Qf : List Frame → Array Value → State → State → Prop} {pc : Nat} {lv : List (Nat × Value)} {st : List Value} {μ : xM} {i : Nat} (hi : i < 13) (hd : decode y.2.2.1 pc = .ok (.arraylength, 1)) (k : xG x y cs Qf (pc + 1) lv (iV (sLen i) :: st) μ) : xG x y cs Qf pc lv (.ref (x.2.2.2.2 i) :: st) μ := by
  intro p e s m args below meth c H locs ls hC hcs hR hS hl
  obtain ⟨hx, hb, hr, hml, hown, hts, hlk, hU, hφ⟩ := hC
  exact va_tlen hx hb (hU.2.2.1.1 i hi).2.2.2 hS Int32.ofInt_eq_ofNat.symm hd (k p e s m args below meth c H locs ls ⟨hx, hb, hr, hml, hown, hts, hlk, hU, hφ⟩ hcs hR hS hl)
theorem x_sbt {x : xX} {y : xY} {cs : Nat × Nat} {Qf : List Frame → Array Value → State → State → Prop} {pc : Nat} {lv : List (Nat × Value)} {st : List Value} {μ : xM} {i : Nat} {j : Int} (hi : i < 13) (h0 : 0 ≤ j) (h1 : j < sLen i) (hj : xIn j) (hd : decode y.2.2.1 pc = .ok (.baload, 1)) (k : xG x y cs Qf (pc + 1) lv (iV (sChr i j) :: st) μ) : xG x y cs Qf pc lv (iV j :: .ref (x.2.2.2.2 i) :: st) μ := by
  intro p e s m args below meth c H locs ls hC hcs hR hS hl
  obtain ⟨hx, hb, hr, hml, hown, hts, hlk, hU, hφ⟩ := hC
  refine va_tb hx hb (hU.2.2.1.1 i hi).2.2.2 hS (xI_in h0 h1 hj) ?_ hd (k p e s m args below meth c H locs ls ⟨hx, hb, hr, hml, hown, hts, hlk, hU, hφ⟩ hcs hR hS hl)
  rw [xI_nat hj]
  exact congrArg Value.int (Int32.ofInt_toInt _).symm
theorem x_i2c {x : xX} {y : xY} {cs : Nat × Nat} {Qf : List Frame → Array Value → State → State → Prop} {pc : Nat} {lv : List (Nat × Value)} {st : List Value} {μ : xM} {a : Int} (h0 : 0 ≤ a) (h1 : a < 128) (hd : decode y.2.2.1 pc = .ok (.i2c, 1)) (k : xG x y cs Qf (pc + 1) lv (iV a :: st) μ) : xG x y cs Qf pc lv (iV a :: st) μ := by
  intro p e s m args below meth c H locs ls hC hcs hR hS hl
  obtain ⟨hx, hb, hr, hml, hown, hts, hlk, hU, hφ⟩ := hC
  refine lv_i2c hx hb hd ?_ (k p e s m args below meth c H locs ls ⟨hx, hb, hr, hml, hown, hts, hlk, hU, hφ⟩ hcs hR hS hl)
  exact x_i2c0 h0 h1
theorem x_nret {x : xX} {y : xY} {pc : Nat} {lv : List (Nat × Value)} {μ : xM} {Q : Int → xM → Prop} {v : Int} {ty : FieldType} (hq : Q v μ) (hv : xIn v) (hn : narrow ty (iV v) = iV v) (hret : y.2.2.2.2.1 = some ty) (hd : decode y.2.2.1 pc = .ok (.ireturn, 1)) : xW x y (xQi x Q) pc lv [iV v] μ := by
  intro p e s m args below meth c H locs ls hC hcs hR hS hl
  obtain ⟨hx, hb, hr, hml, hown, hts, hlk, hU, hφ⟩ := hC
  show W _ _ _ _ _ _ _ _ _ _ _ _ 0 0 (MQ _ _ _ _ 0 0 _) _
  exact W.zret hx hb (hr.trans hret) hn (fun t ht hW => ⟨⟨_, μ, rfl, ⟨v, rfl, hv, hq⟩, (by show xR x μ t.heap; rw [ht]; exact hR)⟩, hS.F ht⟩) hS.2.2 hd hlk
theorem x_callTi {x : xX} {y : xY} {cs : Nat × Nat} {Qf : List Frame → Array Value → State → State → Prop} {pc : Nat} {lv : List (Nat × Value)} {μ : xM} {n : MethodName} {cc : ByteArray} {nL d idx i : Nat} {ret : Option FieldType} {As rest st0 : List Value} {Q : Int → xM → Prop} (hi : i < 13) (hcal : xCal n cc nL ret As.length) (hin : Cond.instanceMethod n ∈ xTb) (hsel : Cond.selects RJ0 n n ∈ xTb) (hM : xMet x d n cc nL ret (.ref (x.2.2.2.1 i) :: As) μ (xQi x Q)) (hst : st0 = As.reverse ++ .ref (x.2.2.2.1 i) :: rest) (hlink : Cond.methodLink y.2.1 idx n ∈ xTb) (hroom : d + 1 ≤ y.1.frames ∧ 40 * d + 40 ≤ y.1.locals) (hsum : (rest.map fun v => v.category).sum ≤ 8) (hd : decode y.2.2.1 pc = .ok (.invokevirtual idx, 3)) (kk : ∀ (r : Int) (μ' : xM), xIn r → xRan μ' → Q r μ' → xG x y cs Qf (pc + 3) lv (iV r :: rest) μ') : xG x y cs Qf pc lv st0 μ := by
  intro p e s m args below meth c H locs ls hC hcs hR hS hl
  obtain ⟨hx, hb, hr, hml, hown, hts, hlk, hU, hφ⟩ := hC
  subst hst
  have run := va_runV (C := RJ0) (b := x.2.2.2.1 i) (As := As) (rest := rest) (g := F0 m pc ls (As.reverse ++ .ref (x.2.2.2.1 i) :: rest)) (locs := locs) (cells := cs.1) (slots := cs.2) (below := below) (e := e) (meth := meth) ⟨hx, hb, hml, hown, hts⟩ hM ⟨xCal.b ⟨hx, hb, hr, hml, hown, hts, hlk, hU, hφ⟩ hcal hlink hroom, hts _ hin, hts _ hsel⟩ ⟨xPc_blind _ _ _, vk_recv hU.2.2.1 hi hS, fun U hUh hW => ⟨rfl, by rw [hUh]; exact hR, xU_moved hU hS hUh hW⟩⟩ rfl rfl (by rw [← hml]; exact hl.1.trans hml.symm) rfl (lv_room hsum) hd hcs
  refine va_calli run hS (fun _ _ h => h) (fun _ h => h) (fun r u t H1 locs1 ht hvm hw hB _ _ hS1 => ?_)
  obtain ⟨v, rfl, hv, hq⟩ := hw
  have hR1 : xR x u H1 := by rw [← ht]; exact hB
  exact kk v u hv hR1.2 hq p e s m args below meth c H1 locs1 ls ⟨hx, hb, hr, hml, hown, hts, hlk, hU, hφ⟩ hcs hR1 hS1 hl
theorem x_callTz {x : xX} {y : xY} {cs : Nat × Nat} {Qf : List Frame → Array Value → State → State → Prop} {pc : Nat} {lv : List (Nat × Value)} {μ : xM} {n : MethodName} {cc : ByteArray} {nL d idx i : Nat} {ret : Option FieldType} {As rest st0 : List Value} {Q : Int → xM → Prop} (hi : i < 13) (hcal : xCal n cc nL ret As.length) (hin : Cond.instanceMethod n ∈ xTb) (hsel : Cond.selects RJ0 n n ∈ xTb) (hM : xMet x d n cc nL ret (.ref (x.2.2.2.1 i) :: As) μ (xQz x Q)) (hst : st0 = As.reverse ++ .ref (x.2.2.2.1 i) :: rest) (hlink : Cond.methodLink y.2.1 idx n ∈ xTb) (hroom : d + 1 ≤ y.1.frames ∧ 40 * d + 40 ≤ y.1.locals) (hsum : (rest.map fun v => v.category).sum ≤ 8) (hd : decode y.2.2.1 pc = .ok (.invokevirtual idx, 3)) (kk : ∀ (r : Int) (μ' : xM), (r = 0 ∨ r = 1) → xRan μ' → Q r μ' → xG x y cs Qf (pc + 3) lv (iV r :: rest) μ') : xG x y cs Qf pc lv st0 μ := by
  intro p e s m args below meth c H locs ls hC hcs hR hS hl
  obtain ⟨hx, hb, hr, hml, hown, hts, hlk, hU, hφ⟩ := hC
  subst hst
  have run := va_runV (C := RJ0) (b := x.2.2.2.1 i) (As := As) (rest := rest) (g := F0 m pc ls (As.reverse ++ .ref (x.2.2.2.1 i) :: rest)) (locs := locs) (cells := cs.1) (slots := cs.2) (below := below) (e := e) (meth := meth) ⟨hx, hb, hml, hown, hts⟩ hM ⟨xCal.b ⟨hx, hb, hr, hml, hown, hts, hlk, hU, hφ⟩ hcal hlink hroom, hts _ hin, hts _ hsel⟩ ⟨xPc_blind _ _ _, vk_recv hU.2.2.1 hi hS, fun U hUh hW => ⟨rfl, by rw [hUh]; exact hR, xU_moved hU hS hUh hW⟩⟩ rfl rfl (by rw [← hml]; exact hl.1.trans hml.symm) rfl (lv_room hsum) hd hcs
  refine va_calli run hS (fun _ _ h => h) (fun _ h => h) (fun r u t H1 locs1 ht hvm hw hB _ _ hS1 => ?_)
  obtain ⟨v, rfl, hv, hq⟩ := hw
  have hR1 : xR x u H1 := by rw [← ht]; exact hB
  exact kk v u hv hR1.2 hq p e s m args below meth c H1 locs1 ls ⟨hx, hb, hr, hml, hown, hts, hlk, hU, hφ⟩ hcs hR1 hS1 hl
set_option maxRecDepth 100000 in
theorem xj_coder (x : xX) {i : Nat} (hi : i < 13) (μ : xM) : xMet x 1 yJ0_coder_7d493 cJ0_coder_7d493 1 (some .byte) [.ref (x.2.2.2.1 i)] μ (xQi x (fun v ν => v = 0 ∧ ν = μ)) := by
  refine xMet_of (by decide +kernel) (Nat.le_of_ble_eq_true rfl) ?_
  show xW x (xRm 1, RJ0, cJ0_coder_7d493, 1, (some .byte), fun _ _ => True) _ 0 [(0, .ref (x.2.2.2.1 i))] [] μ
  refine x_gsC dJ0_coder_7d493_0 ?_
  refine x_ifeq (tgt := 13) ⟨by decide, by decide⟩ dJ0_coder_7d493_3 (by decide) (fun k => absurd k (by decide)) (fun _ => ?_)
  refine x_aload_n 0 rfl dJ0_coder_7d493_6 ?_
  refine x_scod hi dJ0_coder_7d493_7 ?_
  refine x_goto (tgt := 14) dJ0_coder_7d493_10 (by decide) ?_
  exact x_nret ⟨rfl, rfl⟩ ⟨by decide, by decide⟩ rfl rfl dJ0_coder_7d493_14
set_option maxRecDepth 100000 in
theorem xj_isLatin1 (x : xX) {i : Nat} (hi : i < 13) (μ : xM) : xMet x 1 yJ0_isLatin1_aae02 cJ0_isLatin1_aae02 1 (some .boolean) [.ref (x.2.2.2.1 i)] μ (xQz x (fun v ν => v = 1 ∧ ν = μ)) := by
  refine xMet_of (by decide +kernel) (Nat.le_of_ble_eq_true rfl) ?_
  show xW x (xRm 1, RJ0, cJ0_isLatin1_aae02, 1, (some .boolean), fun _ _ => True) _ 0 [(0, .ref (x.2.2.2.1 i))] [] μ
  refine x_gsC dJ0_isLatin1_aae02_0 ?_
  refine x_ifeq (tgt := 17) ⟨by decide, by decide⟩ dJ0_isLatin1_aae02_3 (by decide) (fun k => absurd k (by decide)) (fun _ => ?_)
  refine x_aload_n 0 rfl dJ0_isLatin1_aae02_6 ?_
  refine x_scod hi dJ0_isLatin1_aae02_7 ?_
  refine x_ifne (tgt := 17) ⟨by decide, by decide⟩ dJ0_isLatin1_aae02_10 (by decide) (fun k => absurd k (by decide)) (fun _ => ?_)
  refine x_iconst dJ0_isLatin1_aae02_13 ?_
  refine x_goto (tgt := 18) dJ0_isLatin1_aae02_14 (by decide) ?_
  exact x_zret ⟨rfl, rfl⟩ (Or.inr rfl) rfl dJ0_isLatin1_aae02_18
set_option maxRecDepth 100000 in
theorem xj_length (x : xX) {i : Nat} (hi : i < 13) (μ : xM) : xMet x 2 yJ0_length_8abf5 cJ0_length_8abf5 1 (some .int) [.ref (x.2.2.2.1 i)] μ (xQi x (fun v ν => v = sLen i ∧ ν = μ)) := by
  refine xMet_of (by decide +kernel) (Nat.le_of_ble_eq_true rfl) ?_
  show xW x (xRm 2, RJ0, cJ0_length_8abf5, 1, (some .int), fun _ _ => True) _ 0 [(0, .ref (x.2.2.2.1 i))] [] μ
  refine x_aload_n 0 rfl dJ0_length_8abf5_0 ?_
  refine x_sval hi dJ0_length_8abf5_1 ?_
  refine x_sbl hi dJ0_length_8abf5_4 ?_
  refine x_aload_n 0 rfl dJ0_length_8abf5_5 ?_
  refine x_callTi (As := []) (rest := [iV (sLen i)]) hi cal_J0_coder_7d493 ins_J0_coder_7d493 sel_J0_coder_7d493 (xj_coder x hi μ) rfl ml_J0_335 (xRoom (Nat.le_refl _)) (Nat.le_of_ble_eq_true rfl) dJ0_length_8abf5_6 (fun r ν _ _ h => ?_)
  obtain ⟨rfl, rfl⟩ := h
  refine x_ishr dJ0_length_8abf5_9 ?_
  have e : xShr (sLen i) 0 = sLen i := by unfold xShr; rw [show Int32.ofInt (sLen i) >>> (Int32.ofInt 0 &&& 31) = Int32.ofInt (sLen i) by simp]; exact xI_toInt (sLen_in i)
  rw [e]
  exact x_iret ⟨rfl, rfl⟩ (sLen_in i) rfl dJ0_length_8abf5_10
theorem x_slen {x : xX} {y : xY} {cs : Nat × Nat} {Qf : List Frame → Array Value → State → State → Prop} {pc : Nat} {lv : List (Nat × Value)} {st : List Value} {μ : xM} {idx i : Nat} (hi : i < 13) (hlk : Cond.methodLink y.2.1 idx yJ0_length_8abf5 ∈ xTb) (hr : 2 + 1 ≤ y.1.frames ∧ 40 * 2 + 40 ≤ y.1.locals) (hs : (st.map fun v => v.category).sum ≤ 8) (hd : decode y.2.2.1 pc = .ok (.invokevirtual idx, 3)) (k : xG x y cs Qf (pc + 3) lv (iV (sLen i) :: st) μ) : xG x y cs Qf pc lv (.ref (x.2.2.2.1 i) :: st) μ := by
  refine x_callTi (As := []) (rest := st) hi cal_J0_length_8abf5 ins_J0_length_8abf5 sel_J0_length_8abf5 (xj_length x hi μ) rfl hlk hr hs hd (fun r ν _ _ h => ?_)
  obtain ⟨rfl, rfl⟩ := h
  exact k
set_option maxRecDepth 100000 in
theorem xj_preN (x : xX) (a n : Int) (h0 : 0 ≤ a) (h1 : a < n) (ha : xIn a) (hn : xIn n) (μ : xM) : xMet x 1 yJ3_checkIndex_8e157 cJ3_checkIndex_8e157 3 (some .int) [iV a, iV n, .null] μ (xQi x (fun r ν => r = a ∧ ν = μ)) := by
  refine xMet_of (by decide +kernel) (Nat.le_of_ble_eq_true rfl) ?_
  show xW x (xRm 1, RJ3, cJ3_checkIndex_8e157, 3, (some .int), fun _ _ => True) _ 0 [(0, iV a), (1, iV n), (2, .null)] [] μ
  refine x_iload_n 0 rfl dJ3_checkIndex_8e157_0 ?_
  refine x_iflt (tgt := 9) ha dJ3_checkIndex_8e157_1 (by decide) (fun k => absurd k (by omega)) (fun _ => ?_)
  refine x_iload_n 0 rfl dJ3_checkIndex_8e157_4 ?_
  refine x_iload_n 1 rfl dJ3_checkIndex_8e157_5 ?_
  refine x_icmplt (tgt := 16) ha hn dJ3_checkIndex_8e157_6 (by decide) (fun _ => ?_) (fun k => absurd h1 k)
  refine x_iload_n 0 rfl dJ3_checkIndex_8e157_16 ?_
  exact x_iret ⟨rfl, rfl⟩ ha rfl dJ3_checkIndex_8e157_17
set_option maxRecDepth 100000 in
theorem xj_preR (x : xX) (a n : Int) (h0 : 0 ≤ a) (h1 : a < n) (ha : xIn a) (hn : xIn n) (t : Nat) (μ : xM) : xMet x 1 yJ3_checkIndex_8e157 cJ3_checkIndex_8e157 3 (some .int) [iV a, iV n, .ref t] μ (xQi x (fun r ν => r = a ∧ ν = μ)) := by
  refine xMet_of (by decide +kernel) (Nat.le_of_ble_eq_true rfl) ?_
  show xW x (xRm 1, RJ3, cJ3_checkIndex_8e157, 3, (some .int), fun _ _ => True) _ 0 [(0, iV a), (1, iV n), (2, .ref t)] [] μ
  refine x_iload_n 0 rfl dJ3_checkIndex_8e157_0 ?_
  refine x_iflt (tgt := 9) ha dJ3_checkIndex_8e157_1 (by decide) (fun k => absurd k (by omega)) (fun _ => ?_)
  refine x_iload_n 0 rfl dJ3_checkIndex_8e157_4 ?_
  refine x_iload_n 1 rfl dJ3_checkIndex_8e157_5 ?_
  refine x_icmplt (tgt := 16) ha hn dJ3_checkIndex_8e157_6 (by decide) (fun _ => ?_) (fun k => absurd h1 k)
  refine x_iload_n 0 rfl dJ3_checkIndex_8e157_16 ?_
  exact x_iret ⟨rfl, rfl⟩ ha rfl dJ3_checkIndex_8e157_17
set_option maxRecDepth 100000 in
theorem xj_check (x : xX) (a n : Int) (h0 : 0 ≤ a) (h1 : a < n) (ha : xIn a) (hn : xIn n) (μ : xM) : xMet x 2 yJ0_checkIndex_df160 cJ0_checkIndex_df160 2 none [iV a, iV n] μ (xQv x (fun ν => ν = μ)) := by
  refine xMet_of (by decide +kernel) (Nat.le_of_ble_eq_true rfl) ?_
  show xW x (xRm 2, RJ0, cJ0_checkIndex_df160, 2, none, fun _ _ => True) _ 0 [(0, iV a), (1, iV n)] [] μ
  refine x_iload_n 0 rfl dJ0_checkIndex_df160_0 ?_
  refine x_iload_n 1 rfl dJ0_checkIndex_df160_1 ?_
  refine x_gsF dJ0_checkIndex_df160_2 ?_ (fun t => ?_)
  · refine x_callSi (As := [iV a, iV n, .null]) (rest := []) cal_J3_checkIndex_8e157 sta_J3_checkIndex_8e157 (xj_preN x a n h0 h1 ha hn μ) rfl ml_J0_1059 (xRoom (Nat.le_refl _)) (Nat.le_of_ble_eq_true rfl) dJ0_checkIndex_df160_5 (fun r ν _ _ h => ?_)
    obtain ⟨rfl, rfl⟩ := h
    refine x_pop rfl dJ0_checkIndex_df160_8 ?_
    exact x_vret rfl rfl dJ0_checkIndex_df160_9
  · refine x_callSi (As := [iV a, iV n, .ref t]) (rest := []) cal_J3_checkIndex_8e157 sta_J3_checkIndex_8e157 (xj_preR x a n h0 h1 ha hn t μ) rfl ml_J0_1059 (xRoom (Nat.le_refl _)) (Nat.le_of_ble_eq_true rfl) dJ0_checkIndex_df160_5 (fun r ν _ _ h => ?_)
    obtain ⟨rfl, rfl⟩ := h
    refine x_pop rfl dJ0_checkIndex_df160_8 ?_
    exact x_vret rfl rfl dJ0_checkIndex_df160_9
set_option maxRecDepth 100000 in
theorem xj_lchar (x : xX) {i : Nat} (hi : i < 13) (j : Int) (h0 : 0 ≤ j) (h1 : j < sLen i) (hj : xIn j) (μ : xM) : xMet x 3 yJ1_charAt_3b067 cJ1_charAt_3b067 2 (some .char) [.ref (x.2.2.2.2 i), iV j] μ (xQi x (fun r ν => r = sChr i j ∧ ν = μ)) := by
  refine xMet_of (by decide +kernel) (Nat.le_of_ble_eq_true rfl) ?_
  show xW x (xRm 3, RJ1, cJ1_charAt_3b067, 2, (some .char), fun _ _ => True) _ 0 [(0, .ref (x.2.2.2.2 i)), (1, iV j)] [] μ
  refine x_iload_n 1 rfl dJ1_charAt_3b067_0 ?_
  refine x_aload_n 0 rfl dJ1_charAt_3b067_1 ?_
  refine x_sbl hi dJ1_charAt_3b067_2 ?_
  refine x_callSv (As := [iV j, iV (sLen i)]) (rest := []) cal_J0_checkIndex_df160 sta_J0_checkIndex_df160 (xj_check x j (sLen i) h0 h1 hj (sLen_in i) μ) rfl ml_J1_9 (xRoom (Nat.le_refl _)) (Nat.le_of_ble_eq_true rfl) dJ1_charAt_3b067_3 (fun ν _ h => ?_)
  subst h
  refine x_aload_n 0 rfl dJ1_charAt_3b067_6 ?_
  refine x_iload_n 1 rfl dJ1_charAt_3b067_7 ?_
  refine x_sbt hi h0 h1 hj dJ1_charAt_3b067_8 ?_
  refine x_sipush dJ1_charAt_3b067_9 (by decide) ?_
  refine x_iand dJ1_charAt_3b067_12 ?_
  have hb := sChr_b hi h0 h1
  rw [xAnd_255 hb.1 hb.2]
  refine x_i2c hb.1 hb.2 dJ1_charAt_3b067_13 ?_
  exact x_nret ⟨rfl, rfl⟩ (sChr_in i j) (sChr_n hb.1 hb.2) rfl dJ1_charAt_3b067_14
set_option maxRecDepth 100000 in
theorem xj_charAt (x : xX) {i : Nat} (hi : i < 13) (j : Int) (h0 : 0 ≤ j) (h1 : j < sLen i) (hj : xIn j) (μ : xM) : xMet x 4 yJ0_charAt_5068e cJ0_charAt_5068e 2 (some .char) [.ref (x.2.2.2.1 i), iV j] μ (xQi x (fun r ν => r = sChr i j ∧ ν = μ)) := by
  refine xMet_of (by decide +kernel) (Nat.le_of_ble_eq_true rfl) ?_
  show xW x (xRm 4, RJ0, cJ0_charAt_5068e, 2, (some .char), fun _ _ => True) _ 0 [(0, .ref (x.2.2.2.1 i)), (1, iV j)] [] μ
  refine x_aload_n 0 rfl dJ0_charAt_5068e_0 ?_
  refine x_callTz (As := []) (rest := []) hi cal_J0_isLatin1_aae02 ins_J0_isLatin1_aae02 sel_J0_isLatin1_aae02 (xj_isLatin1 x hi μ) rfl ml_J0_492 (xRoom (Nat.le_of_ble_eq_true rfl)) (Nat.le_of_ble_eq_true rfl) dJ0_charAt_5068e_1 (fun r ν _ _ h => ?_)
  obtain ⟨rfl, rfl⟩ := h
  refine x_ifeq (tgt := 16) ⟨by decide, by decide⟩ dJ0_charAt_5068e_4 (by decide) (fun k => absurd k (by decide)) (fun _ => ?_)
  refine x_aload_n 0 rfl dJ0_charAt_5068e_7 ?_
  refine x_sval hi dJ0_charAt_5068e_8 ?_
  refine x_iload_n 1 rfl dJ0_charAt_5068e_11 ?_
  refine x_callSi (As := [.ref (x.2.2.2.2 i), iV j]) (rest := []) cal_J1_charAt_3b067 sta_J1_charAt_3b067 (xj_lchar x hi j h0 h1 hj ν) rfl ml_J0_495 (xRoom (Nat.le_refl _)) (Nat.le_of_ble_eq_true rfl) dJ0_charAt_5068e_12 (fun r ν2 _ _ h => ?_)
  obtain ⟨rfl, rfl⟩ := h
  have hb := sChr_b hi h0 h1
  exact x_nret ⟨rfl, rfl⟩ (sChr_in i j) (sChr_n hb.1 hb.2) rfl dJ0_charAt_5068e_15
theorem lay_len {k n : Nat} {q : List Nat} (h : k < 281) (hk : lay k = (1, n, q)) : n ≤ 200000 := by
  have h2 := (show ∀ k : Fin 281, (lay k.val).2.1 ≤ 200000 by decide +kernel) ⟨k, h⟩
  rw [show (lay (⟨k, h⟩ : Fin 281).val) = lay k from rfl, hk] at h2
  exact h2
theorem x_schr {x : xX} {y : xY} {cs : Nat × Nat} {Qf : List Frame → Array Value → State → State → Prop} {pc : Nat} {lv : List (Nat × Value)} {st : List Value} {μ : xM} {idx i : Nat} {j : Int} (hi : i < 13) (h0 : 0 ≤ j) (h1 : j < sLen i) (hj : xIn j) (hlk : Cond.methodLink y.2.1 idx yJ0_charAt_5068e ∈ xTb) (hr : 4 + 1 ≤ y.1.frames ∧ 40 * 4 + 40 ≤ y.1.locals) (hs : (st.map fun v => v.category).sum ≤ 8) (hd : decode y.2.2.1 pc = .ok (.invokevirtual idx, 3)) (k : xG x y cs Qf (pc + 3) lv (iV (sChr i j) :: st) μ) : xG x y cs Qf pc lv (iV j :: .ref (x.2.2.2.1 i) :: st) μ := by
  refine x_callTi (As := [iV j]) (rest := st) hi cal_J0_charAt_5068e ins_J0_charAt_5068e sel_J0_charAt_5068e (xj_charAt x hi j h0 h1 hj μ) rfl hlk hr hs hd (fun r ν _ _ h => ?_)
  obtain ⟨rfl, rfl⟩ := h
  exact k
theorem x_acopy {x : xX} {y : xY} {cs : Nat × Nat} {Qf : List Frame → Array Value → State → State → Prop} {pc : Nat} {lv : List (Nat × Value)} {st : List Value} {μ : xM} {idx a b na nb n : Nat} (ha : lay a = (1, na, [])) (ha2 : a < 281) (hb0 : lay b = (1, nb, [])) (hb2 : b < 281) (hna : n ≤ na) (hnb : n ≤ nb) (hlk0 : Cond.methodLink y.2.1 idx arraycopyName ∈ xTb) (hr0 : 1 ≤ y.1.frames ∧ 40 ≤ y.1.locals) (hs0 : (st.map fun v => v.category).sum ≤ 8) (hd : decode y.2.2.1 pc = .ok (.invokestatic idx, 3))
    (k : ∀ ν : xM, ν = cpM μ a b n → xRan ν → xG x y cs Qf (pc + 3) lv st ν) : xG x y cs Qf pc lv (iV n :: iV 0 :: .ref (x.2.2.1 + b) :: iV 0 :: .ref (x.2.2.1 + a) :: st) μ := by
  intro p e s m args below meth c H locs ls hC hcs hR hS hl
  obtain ⟨hx, hb, hr, hml, hown, hts, hlk, hU, hφ⟩ := hC
  have hea : ∀ ν : xM, xE x.2.1 x.2.2.1 ν a = .inl (x.2.1.1 100, na, .inl (fun j => Int32.ofInt (ν a j))) := fun ν => by simp only [xE, ha]
  have heb : ∀ ν : xM, xE x.2.1 x.2.2.1 ν b = .inl (x.2.1.1 100, nb, .inl (fun j => Int32.ofInt (ν b j))) := fun ν => by simp only [xE, hb0]
  have wa := xWs_at (D := x.2.1) (b := x.2.2.1) (μ := μ) ha2
  have wb := xWs_at (D := x.2.1) (b := x.2.2.1) (μ := μ) hb2
  rw [hea] at wa
  rw [heb] at wb
  have hnl := lay_len ha2 ha
  have hn1 : xIn (n : Int) := ⟨by omega, by omega⟩
  have e0 : (Int32.ofInt 0).toNatClampNeg = 0 := by decide
  have en : (Int32.ofInt (n : Int)).toNatClampNeg = n := by rw [xI_nat hn1]; rfl
  refine va_copyi hx hb (hml.trans hl.1.symm) hown (hts _ hlk0) (hts _ nat_ac) (hts _ sta_ac) (hts _ ini_sys) hU.1 hR.1 (xWs_D _ _ _) hS a b 0 0 wa wb rfl rfl rfl (by decide) (by decide) (by rw [show (0 : Int32) = Int32.ofInt 0 from rfl, xI_lt hn1 xIn0]; omega) (by rw [e0, en]; omega) (by rw [e0, en]; omega) (fun _ _ => rfl) hr0.1 (by rw [show nativeFrameWords "java/lang/System" "arraycopy" 5 = 7 by decide +kernel]; have := hr0.2; omega) hd (fun H1 locs1 hP1 hD1 hS1 => ?_)
  rw [e0, en] at hP1
  have hran : xRan (cpM μ a b n) := by
    intro k' j'
    unfold cpM
    split
    · rename_i q
      exact ⟨fun _ => hR.2.i (lay279 ha2 (by rw [ha]; simp)), (hR.2.i (lay279 ha2 (by rw [ha]; simp))).il⟩
    · exact hR.2 k' j'
  have hset : (xWs x.2.1 x.2.2.1 μ).set b (x.2.2.1 + b, .inl (x.2.1.1 100, nb, .inl (va_cpy (fun j => Int32.ofInt (μ a j)) (fun j => Int32.ofInt (μ b j)) 0 0 n))) = xWs x.2.1 x.2.2.1 (cpM μ a b n) := by
    apply List.ext_getElem?
    intro q
    rw [List.getElem?_set]
    by_cases hq : q < 281
    · rw [xWs_at hq, xWs_at hq]
      by_cases e1 : b = q
      · subst e1
        rw [if_pos rfl, if_pos (by simpa [xWs] using hq), heb]
        refine congrArg (fun f : Nat → Int32 => some (x.2.2.1 + b, (Sum.inl (x.2.1.1 100, nb, Sum.inl f) : va_E))) (funext fun j => ?_)
        simp only [va_cpy, cpM, Nat.zero_le, true_and, Nat.zero_add, Nat.sub_zero]
        split <;> rfl
      · rw [if_neg e1, xE_congr (fun j => (show μ q j = cpM μ a b n q j by unfold cpM; rw [if_neg (fun z => e1 z.1.symm)]))]
    · have h1 : ∀ ν : xM, (xWs x.2.1 x.2.2.1 ν)[q]? = none := fun ν => List.getElem?_eq_none (by simpa [xWs] using hq)
      rw [h1, h1]
      split
      · rename_i e1
        subst e1
        exact absurd hb2 hq
      · rfl
  rw [hset] at hP1
  exact k _ rfl hran p e s m args below meth c H1 locs1 ls ⟨hx, hb, hr, hml, hown, hts, hlk, hU, hφ⟩ hcs ⟨hP1, hran⟩ hS1 hl
