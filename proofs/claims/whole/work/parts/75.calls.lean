theorem tb {w : Cond} (i : Nat) (h : lw_tbl[i]? = some w) (hg : goodWord w = true) : w ∈ xTb := xTb_in (List.mem_of_getElem? h) hg
theorem tbs {C : String} {T : u_T} {N : Nat} (ix : List Nat) (h : (List.range N).all (fun k => decide (lw_tbl[ix.getD k 0]? = some (u_lay C T k))) = true) (hg : (List.range N).all (fun k => goodWord (u_lay C T k)) = true) : ∀ w ∈ u_ws C T N, w ∈ xTb := by
  intro w hw
  obtain ⟨k, hk, rfl⟩ := List.mem_map.mp hw
  have h1 := List.all_eq_true.mp h k hk
  have h2 := List.all_eq_true.mp hg k hk
  exact tb _ (of_decide_eq_true h1) h2
theorem x_ran {x : xX} {y : xY} {cs : Nat × Nat} {Qf : List Frame → Array Value → State → State → Prop} {pc : Nat} {lv : List (Nat × Value)} {st : List Value} {μ : xM} (k : xRan μ → xG x y cs Qf pc lv st μ) : xG x y cs Qf pc lv st μ :=
  fun p e s m args below meth c H locs ls hC hcs hR hS hl => k hR.2 p e s m args below meth c H locs ls hC hcs hR hS hl
theorem xE_obj {D : va_G} {b : Nat} {μ : xM} {k ci : Nat} {ks : List Nat} (hk : lay k = (0, ci, ks)) : xE D b μ k = .inr (ci, xF b μ k ks) := by simp only [xE, hk]
theorem x_getI {x : xX} {y : xY} {cs : Nat × Nat} {Qf : List Frame → Array Value → State → State → Prop} {pc : Nat} {lv : List (Nat × Value)} {st : List Value} {μ : xM} {k ci j idx : Nat} {ks : List Nat} {C : String} {T : u_T} {N : Nat} (hk : lay k = (0, ci, ks)) (hk2 : k < 281) (hj : ks[j]? = some 0) (hc : vwCl[ci]? = some (C, T, N)) (hN : j < N) (hin : ∀ w ∈ u_ws C T N, w ∈ xTb) (hw : Cond.fieldLink y.2.1 idx (T j).1 (T j).2.1 (T j).2.2.1 ∈ xTb) (hd : decode y.2.2.1 pc = .ok (.getfield idx, 3)) (kk : xIn (μ k j) → xG x y cs Qf (pc + 3) lv (iV (μ k j) :: st) μ) : xG x y cs Qf pc lv (.ref (x.2.2.1 + k) :: st) μ := by
  intro p e s m args below meth c H locs ls hC hcs hR hS hl
  obtain ⟨hx, hb, hr, hml, hown, hts, hlk, hU, hφ⟩ := hC
  have ha := xWs_at (D := x.2.1) (b := x.2.2.1) (μ := μ) hk2
  rw [xE_obj hk] at ha
  exact va_get hx hb hts hin hown hU.1 hR.1 k ha hc j hN (hts _ hw) (fun _ h => h) (xF_get hj) hd (kk (hR.2.i (lay279 hk2 (by rw [hk]; simp))) p e s m args below meth c H locs ls ⟨hx, hb, hr, hml, hown, hts, hlk, hU, hφ⟩ hcs hR hS hl)
theorem x_getD {x : xX} {y : xY} {cs : Nat × Nat} {Qf : List Frame → Array Value → State → State → Prop} {pc : Nat} {lv : List (Nat × Value)} {st : List Value} {μ : xM} {k ci j idx : Nat} {ks : List Nat} {C : String} {T : u_T} {N : Nat} (hk : lay k = (0, ci, ks)) (hk2 : k < 281) (hj : ks[j]? = some 1) (hc : vwCl[ci]? = some (C, T, N)) (hN : j < N) (hin : ∀ w ∈ u_ws C T N, w ∈ xTb) (hw : Cond.fieldLink y.2.1 idx (T j).1 (T j).2.1 (T j).2.2.1 ∈ xTb) (hd : decode y.2.2.1 pc = .ok (.getfield idx, 3)) (kk : xG x y cs Qf (pc + 3) lv (.ref (x.2.2.1 + (μ k j).toNat) :: st) μ) : xG x y cs Qf pc lv (.ref (x.2.2.1 + k) :: st) μ := by
  intro p e s m args below meth c H locs ls hC hcs hR hS hl
  obtain ⟨hx, hb, hr, hml, hown, hts, hlk, hU, hφ⟩ := hC
  have ha := xWs_at (D := x.2.1) (b := x.2.2.1) (μ := μ) hk2
  rw [xE_obj hk] at ha
  exact va_get hx hb hts hin hown hU.1 hR.1 k ha hc j hN (hts _ hw) (fun _ h => h) (xF_get hj) hd (kk p e s m args below meth c H locs ls ⟨hx, hb, hr, hml, hown, hts, hlk, hU, hφ⟩ hcs hR hS hl)
theorem x_getR {x : xX} {y : xY} {cs : Nat × Nat} {Qf : List Frame → Array Value → State → State → Prop} {pc : Nat} {lv : List (Nat × Value)} {st : List Value} {μ : xM} {k ci j idx : Nat} {ks : List Nat} {C : String} {T : u_T} {N : Nat} (hk : lay k = (0, ci, ks)) (hk2 : k < 281) {r : Nat} (hj : ks[j]? = some (r + 2)) (hc : vwCl[ci]? = some (C, T, N)) (hN : j < N) (hin : ∀ w ∈ u_ws C T N, w ∈ xTb) (hw : Cond.fieldLink y.2.1 idx (T j).1 (T j).2.1 (T j).2.2.1 ∈ xTb) (hd : decode y.2.2.1 pc = .ok (.getfield idx, 3)) (kk : xG x y cs Qf (pc + 3) lv (.ref (x.2.2.1 + r) :: st) μ) : xG x y cs Qf pc lv (.ref (x.2.2.1 + k) :: st) μ := by
  intro p e s m args below meth c H locs ls hC hcs hR hS hl
  obtain ⟨hx, hb, hr, hml, hown, hts, hlk, hU, hφ⟩ := hC
  have ha := xWs_at (D := x.2.1) (b := x.2.2.1) (μ := μ) hk2
  rw [xE_obj hk] at ha
  exact va_get hx hb hts hin hown hU.1 hR.1 k ha hc j hN (hts _ hw) (fun _ h => h) (xF_get hj) hd (kk p e s m args below meth c H locs ls ⟨hx, hb, hr, hml, hown, hts, hlk, hU, hφ⟩ hcs hR hS hl)
theorem x_putI {x : xX} {y : xY} {cs : Nat × Nat} {Qf : List Frame → Array Value → State → State → Prop} {pc : Nat} {lv : List (Nat × Value)} {st : List Value} {μ : xM} {k ci j idx : Nat} {ks : List Nat} {C : String} {T : u_T} {N : Nat} (hk : lay k = (0, ci, ks)) (hk2 : k < 281) (hj : ks[j]? = some 0) (hc : vwCl[ci]? = some (C, T, N)) (hN : j < N) (hin : ∀ w ∈ u_ws C T N, w ∈ xTb) (hw : Cond.fieldLink y.2.1 idx (T j).1 (T j).2.1 (T j).2.2.1 ∈ xTb) (ty0 : Nat → FieldType) (hty : ∀ k, k < N → parseFieldDescriptor (T k).2.2.1 = some (ty0 k)) (hnm : ∀ a, a < N → ∀ b, b < N → a ≠ b → (T a).2.1 ≠ (T b).2.1) (hfin : (T j).2.2.2 = false) {v : Int} (hv : xIn v) (hd2 : parseFieldDescriptor (T j).2.2.1 = some .int) (hd : decode y.2.2.1 pc = .ok (.putfield idx, 3)) (kk : ∀ ν : xM, ν = wi μ k j v → xRan ν → xG x y cs Qf (pc + 3) lv st ν) : xG x y cs Qf pc lv (iV v :: .ref (x.2.2.1 + k) :: st) μ := by
  intro p e s m args below meth c H locs ls hC hcs hR hS hl
  obtain ⟨hx, hb, hr, hml, hown, hts, hlk, hU, hφ⟩ := hC
  have ha := xWs_at (D := x.2.1) (b := x.2.2.1) (μ := μ) hk2
  rw [xE_obj hk] at ha
  refine va_put hx hb hts hin ty0 hty hnm hown hU.1 hR.1 (xWs_D _ _ _) hS k ha hc j hN (hts _ hw) (fun _ h => h) hfin hd2 rfl rfl (by rw [xF_len]; exact (List.getElem?_eq_some_iff.mp hj).1) hd (fun H1 locs1 hP1 hD1 hS1 => ?_)
  have e1 := xF_set (b := x.2.2.1) (μ := μ) (k := k) (v := v) hj
  have e2 : xS x.2.2.1 (wi μ k j v) k j 0 = iV v := by simp only [xS, if_pos, wi_self]
  rw [e2] at e1
  rw [e1, xWs_set (i := j) (v := v) (xE_obj hk)] at hP1
  exact kk _ rfl (hR.2.w hv) p e s m args below meth c H1 locs1 ls ⟨hx, hb, hr, hml, hown, hts, hlk, hU, hφ⟩ hcs ⟨hP1, hR.2.w hv⟩ hS1 hl
theorem x_putZ {x : xX} {y : xY} {cs : Nat × Nat} {Qf : List Frame → Array Value → State → State → Prop} {pc : Nat} {lv : List (Nat × Value)} {st : List Value} {μ : xM} {k ci j idx : Nat} {ks : List Nat} {C : String} {T : u_T} {N : Nat} (hk : lay k = (0, ci, ks)) (hk2 : k < 281) (hj : ks[j]? = some 0) (hc : vwCl[ci]? = some (C, T, N)) (hN : j < N) (hin : ∀ w ∈ u_ws C T N, w ∈ xTb) (hw : Cond.fieldLink y.2.1 idx (T j).1 (T j).2.1 (T j).2.2.1 ∈ xTb) (ty0 : Nat → FieldType) (hty : ∀ k, k < N → parseFieldDescriptor (T k).2.2.1 = some (ty0 k)) (hnm : ∀ a, a < N → ∀ b, b < N → a ≠ b → (T a).2.1 ≠ (T b).2.1) (hfin : (T j).2.2.2 = false) {v : Int} (hv : v = 0 ∨ v = 1) (hd2 : parseFieldDescriptor (T j).2.2.1 = some .boolean) (hd : decode y.2.2.1 pc = .ok (.putfield idx, 3)) (kk : ∀ ν : xM, ν = wi μ k j v → xRan ν → xG x y cs Qf (pc + 3) lv st ν) : xG x y cs Qf pc lv (iV v :: .ref (x.2.2.1 + k) :: st) μ := by
  intro p e s m args below meth c H locs ls hC hcs hR hS hl
  obtain ⟨hx, hb, hr, hml, hown, hts, hlk, hU, hφ⟩ := hC
  have ha := xWs_at (D := x.2.1) (b := x.2.2.1) (μ := μ) hk2
  rw [xE_obj hk] at ha
  refine va_put hx hb hts hin ty0 hty hnm hown hU.1 hR.1 (xWs_D _ _ _) hS k ha hc j hN (hts _ hw) (fun _ h => h) hfin hd2 (by rcases hv with rfl | rfl <;> rfl) (by rcases hv with rfl | rfl <;> rfl) (by rw [xF_len]; exact (List.getElem?_eq_some_iff.mp hj).1) hd (fun H1 locs1 hP1 hD1 hS1 => ?_)
  have e1 := xF_set (b := x.2.2.1) (μ := μ) (k := k) (v := v) hj
  have e2 : xS x.2.2.1 (wi μ k j v) k j 0 = iV v := by simp only [xS, if_pos, wi_self]
  rw [e2] at e1
  rw [e1, xWs_set (i := j) (v := v) (xE_obj hk)] at hP1
  exact kk _ rfl (hR.2.w (by rcases hv with rfl | rfl <;> exact ⟨by omega, by omega⟩)) p e s m args below meth c H1 locs1 ls ⟨hx, hb, hr, hml, hown, hts, hlk, hU, hφ⟩ hcs ⟨hP1, hR.2.w (by rcases hv with rfl | rfl <;> exact ⟨by omega, by omega⟩)⟩ hS1 hl
theorem x_putD {x : xX} {y : xY} {cs : Nat × Nat} {Qf : List Frame → Array Value → State → State → Prop} {pc : Nat} {lv : List (Nat × Value)} {st : List Value} {μ : xM} {k ci j idx : Nat} {ks : List Nat} {C : String} {T : u_T} {N : Nat} (hk : lay k = (0, ci, ks)) (hk2 : k < 281) (hj : ks[j]? = some 1) (hc : vwCl[ci]? = some (C, T, N)) (hN : j < N) (hin : ∀ w ∈ u_ws C T N, w ∈ xTb) (hw : Cond.fieldLink y.2.1 idx (T j).1 (T j).2.1 (T j).2.2.1 ∈ xTb) (ty0 : Nat → FieldType) (hty : ∀ k, k < N → parseFieldDescriptor (T k).2.2.1 = some (ty0 k)) (hnm : ∀ a, a < N → ∀ b, b < N → a ≠ b → (T a).2.1 ≠ (T b).2.1) (hfin : (T j).2.2.2 = false) {v : Nat} (hv : v < 281) (hd2 : parseFieldDescriptor (T j).2.2.1 = some (.array .int)) (hd : decode y.2.2.1 pc = .ok (.putfield idx, 3)) (kk : ∀ ν : xM, ν = wi μ k j v → xRan ν → xG x y cs Qf (pc + 3) lv st ν) : xG x y cs Qf pc lv (.ref (x.2.2.1 + v) :: .ref (x.2.2.1 + k) :: st) μ := by
  intro p e s m args below meth c H locs ls hC hcs hR hS hl
  obtain ⟨hx, hb, hr, hml, hown, hts, hlk, hU, hφ⟩ := hC
  have ha := xWs_at (D := x.2.1) (b := x.2.2.1) (μ := μ) hk2
  rw [xE_obj hk] at ha
  refine va_put hx hb hts hin ty0 hty hnm hown hU.1 hR.1 (xWs_D _ _ _) hS k ha hc j hN (hts _ hw) (fun _ h => h) hfin hd2 rfl rfl (by rw [xF_len]; exact (List.getElem?_eq_some_iff.mp hj).1) hd (fun H1 locs1 hP1 hD1 hS1 => ?_)
  have e1 := xF_set (b := x.2.2.1) (μ := μ) (k := k) (v := (v : Int)) hj
  have e2 : xS x.2.2.1 (wi μ k j (v : Int)) k j 1 = .ref (x.2.2.1 + v) := by simp [xS, wi_self]
  rw [e2] at e1
  rw [e1, xWs_set (i := j) (v := (v : Int)) (xE_obj hk)] at hP1
  exact kk _ rfl (hR.2.w ⟨by omega, by omega⟩) p e s m args below meth c H1 locs1 ls ⟨hx, hb, hr, hml, hown, hts, hlk, hU, hφ⟩ hcs ⟨hP1, hR.2.w ⟨by omega, by omega⟩⟩ hS1 hl
/-! CONTRACTS: the start (arguments, memory), the end (answer, memory) -/
def xPc (x : xX) (as : List Value) (μ : xM) : Array Value → State → Prop := va_Pc as (fun U => xR x μ U.heap ∧ xU x U)
def xQi (x : xX) (Q : Int → xM → Prop) : Array Value → State → Outcome → State → Prop := va_Qi (S := xM) (fun r μ => ∃ v, r = Int32.ofInt v ∧ xIn v ∧ Q v μ) (fun μ t => xR x μ t.heap) (xA x.2.2.1)
def xQz (x : xX) (Q : Int → xM → Prop) : Array Value → State → Outcome → State → Prop := va_Qi (S := xM) (fun r μ => ∃ v, r = Int32.ofInt v ∧ (v = 0 ∨ v = 1) ∧ Q v μ) (fun μ t => xR x μ t.heap) (xA x.2.2.1)
def xQl (x : xX) (Q : Int → xM → Prop) : Array Value → State → Outcome → State → Prop := va_Ql (S := xM) (fun r μ => ∃ v, r = Int64.ofInt v ∧ xIl v ∧ Q v μ) (fun μ t => xR x μ t.heap) (xA x.2.2.1)
def xQv (x : xX) (Q : xM → Prop) : Array Value → State → Outcome → State → Prop := va_Qv (S := xM) Q (fun μ t => xR x μ t.heap) (xA x.2.2.1)
def xQr (x : xX) (Q : Nat → xM → Prop) : Array Value → State → Outcome → State → Prop := va_Qr (S := Nat × xM) (fun u => Q u.1 u.2) (fun u a t => a = x.2.2.1 + u.1 ∧ xR x u.2 t.heap) (xA x.2.2.1)
abbrev xMet (x : xX) (d : Nat) (n : MethodName) (cc : ByteArray) (nL : Nat) (ret : Option FieldType) (as : List Value) (μ : xM) (Qc : Array Value → State → Outcome → State → Prop) : Prop :=
  Met x.1 n (Cond.code n cc nL ret :: xTb) (xRm d) (xPc x as μ) Qc 0 0 (xA x.2.2.1)
theorem xMet_of {x : xX} {d : Nat} {n : MethodName} {cc : ByteArray} {nL : Nat} {ret : Option FieldType} {as : List Value} {μ : xM} {Qc : Array Value → State → Outcome → State → Prop} (hn : plainName n.cls = true) (hlen : (lg_sl as).length ≤ nL)
    (h : xW x (xRm d, n.cls, cc, nL, ret, fun _ _ => True) Qc 0 (lv_args 0 as) [] μ) : xMet x d n cc nL ret as μ Qc := by
  refine Met.ofW (cc := cc) (maxL := nL) (ret := ret) hn rfl ?_
  intro p e s m args below meth c s₁ B hml hv
  obtain ⟨rfl, hR, hU⟩ := hv
  have hts := atoms_spec (ws := Cond.code n cc nL ret :: xTb) B.pre
  rw [lg_entry_eq]
  exact h p e s m _ below meth c s.heap [] _ ⟨B.exec, B.bytes, B.returns, hml, findClass_of_methodNamed B.named, fun w hw => hts w (List.mem_cons_of_mem _ hw), B.notSynchronized, hU, trivial⟩ ⟨Nat.le_refl _, Nat.le_refl _⟩ hR va_S.rf (lv_entry as hlen)
theorem xPc_blind (x : xX) (as : List Value) (μ : xM) : FrameBlind (xPc x as μ) := by
  intro a U g mk h
  obtain ⟨h1, h2, h3, h4, h5, h6, h7⟩ := h
  exact ⟨h1, h2, va_K.moved (u := U) (U := U.calling g mk a) (Vm.Alike.refl U.vm) h3, fun q hq => vk_R.same (u := U) rfl (h4 q hq), vk_S.moved (u := U) (U := U.calling g mk a) (Vm.Alike.refl U.vm) h5, va_Z.moved (u := U) (U := U.calling g mk a) (Vm.Alike.refl U.vm) h6, va_Zq.moved (u := U) (U := U.calling g mk a) (Vm.Alike.refl U.vm) h7⟩
theorem x_iret {x : xX} {y : xY} {pc : Nat} {lv : List (Nat × Value)} {μ : xM} {Q : Int → xM → Prop} {v : Int} (hq : Q v μ) (hv : xIn v) (hret : y.2.2.2.2.1 = some .int) (hd : decode y.2.2.1 pc = .ok (.ireturn, 1)) : xW x y (xQi x Q) pc lv [iV v] μ := by
  intro p e s m args below meth c H locs ls hC hcs hR hS hl
  obtain ⟨hx, hb, hr, hml, hown, hts, hlk, hU, hφ⟩ := hC
  show W _ _ _ _ _ _ _ _ _ _ _ _ 0 0 (MQ _ _ _ _ 0 0 _) _
  exact W.iret hx hb (hr.trans hret) (fun t ht hW => ⟨⟨_, μ, rfl, ⟨v, rfl, hv, hq⟩, (by show xR x μ t.heap; rw [ht]; exact hR)⟩, hS.F ht⟩) hS.2.2 hd hlk
theorem x_zret {x : xX} {y : xY} {pc : Nat} {lv : List (Nat × Value)} {μ : xM} {Q : Int → xM → Prop} {v : Int} (hq : Q v μ) (hv : v = 0 ∨ v = 1) (hret : y.2.2.2.2.1 = some .boolean) (hd : decode y.2.2.1 pc = .ok (.ireturn, 1)) : xW x y (xQz x Q) pc lv [iV v] μ := by
  intro p e s m args below meth c H locs ls hC hcs hR hS hl
  obtain ⟨hx, hb, hr, hml, hown, hts, hlk, hU, hφ⟩ := hC
  show W _ _ _ _ _ _ _ _ _ _ _ _ 0 0 (MQ _ _ _ _ 0 0 _) _
  exact W.zret hx hb (hr.trans hret) (by rcases hv with rfl | rfl <;> rfl) (fun t ht hW => ⟨⟨_, μ, rfl, ⟨v, rfl, hv, hq⟩, (by show xR x μ t.heap; rw [ht]; exact hR)⟩, hS.F ht⟩) hS.2.2 hd hlk
theorem x_lret {x : xX} {y : xY} {pc : Nat} {lv : List (Nat × Value)} {μ : xM} {Q : Int → xM → Prop} {v : Int} (hq : Q v μ) (hv : xIl v) (hret : y.2.2.2.2.1 = some .long) (hd : decode y.2.2.1 pc = .ok (.lreturn, 1)) : xW x y (xQl x Q) pc lv [jV v] μ := by
  intro p e s m args below meth c H locs ls hC hcs hR hS hl
  obtain ⟨hx, hb, hr, hml, hown, hts, hlk, hU, hφ⟩ := hC
  show W _ _ _ _ _ _ _ _ _ _ _ _ 0 0 (MQ _ _ _ _ 0 0 _) _
  exact W.lret hx hb (hr.trans hret) (fun t ht hW => ⟨⟨_, μ, rfl, ⟨v, rfl, hv, hq⟩, (by show xR x μ t.heap; rw [ht]; exact hR)⟩, hS.F ht⟩) hS.2.2 hd hlk
theorem x_vret {x : xX} {y : xY} {pc : Nat} {lv : List (Nat × Value)} {μ : xM} {Q : xM → Prop} (hq : Q μ) (hret : y.2.2.2.2.1 = none) (hd : decode y.2.2.1 pc = .ok (.return_, 1)) : xW x y (xQv x Q) pc lv [] μ := by
  intro p e s m args below meth c H locs ls hC hcs hR hS hl
  obtain ⟨hx, hb, hr, hml, hown, hts, hlk, hU, hφ⟩ := hC
  show W _ _ _ _ _ _ _ _ _ _ _ _ 0 0 (MQ _ _ _ _ 0 0 _) _
  exact W.vret hx hb (hr.trans hret) (fun t ht hW => ⟨⟨μ, rfl, hq, (by show xR x μ t.heap; rw [ht]; exact hR)⟩, hS.F ht⟩) hS.2.2 hd hlk
theorem x_aret {x : xX} {y : xY} {pc : Nat} {lv : List (Nat × Value)} {μ : xM} {Q : Nat → xM → Prop} {v : Nat} {rt : FieldType} (hq : Q v μ) (hret : y.2.2.2.2.1 = some rt) (hrt : (∃ n, rt = .object n) ∨ ∃ t, rt = .array t) (hd : decode y.2.2.1 pc = .ok (.areturn, 1)) : xW x y (xQr x Q) pc lv [.ref (x.2.2.1 + v)] μ := by
  intro p e s m args below meth c H locs ls hC hcs hR hS hl
  obtain ⟨hx, hb, hr, hml, hown, hts, hlk, hU, hφ⟩ := hC
  show W _ _ _ _ _ _ _ _ _ _ _ _ 0 0 (MQ _ _ _ _ 0 0 _) _
  exact W.aret hx hb (hr.trans hret) hrt (Or.inr ⟨_, rfl⟩) (fun t ht hW => ⟨⟨(v, μ), _, rfl, hq, rfl, (by show xR x μ t.heap; rw [ht]; exact hR)⟩, hS.F ht⟩) hS.2.2 hd hlk
/-! CALLS -/
def xCal (n : MethodName) (cc : ByteArray) (nL : Nat) (ret : Option FieldType) (a : Nat) : Prop := Cond.code n cc nL ret ∈ lw_tbl ∧ Cond.initialized n.cls ∈ xTb ∧ (n.cls ≠ "java/lang/invoke/MethodHandle" ∧ n.cls ≠ "java/lang/invoke/VarHandle" ∧ (parseMethodDescriptor n.desc).map (fun d => d.parameters.length) = some a) ∧ nL ≤ 21
theorem xCal.b {x : xX} {y : xY} {p : Program} {s : State} {m : MethodId} {args : Array Value} {meth : Method} {c : Code} {n : MethodName} {cc : ByteArray} {nL a d idx : Nat} {ret : Option FieldType} (hC : xC x y p s m args meth c) (h : xCal n cc nL ret a) (hl : Cond.methodLink y.2.1 idx n ∈ xTb) (hd : d + 1 ≤ y.1.frames ∧ 40 * d + 40 ≤ y.1.locals) :
    CallB y.1 s args y.2.1 idx n cc nL ret (Cond.code n cc nL ret :: xTb) (xRm d) 0 0 a := by
  obtain ⟨hx, hb, hr, hml, hown, hts, hlk, hU, hφ⟩ := hC
  exact callB_of a hts (xTb_good h.1) rfl rfl rfl (hts _ h.2.1) (hts _ hl) h.2.2.1 ⟨hd.1, by show 8 + (nL + 11) + 40 * d ≤ y.1.locals; have := h.2.2.2; have := hd.2; omega⟩
theorem x_callVi {x : xX} {y : xY} {cs : Nat × Nat} {Qf : List Frame → Array Value → State → State → Prop} {pc : Nat} {lv : List (Nat × Value)} {μ : xM} {n : MethodName} {cc : ByteArray} {nL d idx k ci : Nat} {ret : Option FieldType} {ks : List Nat} {As rest st0 : List Value} {T : u_T} {N : Nat} (hcal : xCal n cc nL ret As.length) (hin : Cond.instanceMethod n ∈ xTb) (hsel : Cond.selects n.cls n n ∈ xTb) (hk : lay k = (0, ci, ks)) (hk2 : k < 281) (hc : vwCl[ci]? = some (n.cls, T, N)) {Q : Int → xM → Prop} (hM : xMet x d n cc nL ret (.ref (x.2.2.1 + k) :: As) μ (xQi x Q)) (hst : st0 = As.reverse ++ .ref (x.2.2.1 + k) :: rest) (hlink : Cond.methodLink y.2.1 idx n ∈ xTb) (hroom : d + 1 ≤ y.1.frames ∧ 40 * d + 40 ≤ y.1.locals) (hsum : (rest.map fun v => v.category).sum ≤ 8) (hd : decode y.2.2.1 pc = .ok (.invokevirtual idx, 3)) (kk : ∀ (r : Int) (μ' : xM), xIn r → xRan μ' → Q r μ' → xG x y cs Qf (pc + 3) lv (iV r :: rest) μ') : xG x y cs Qf pc lv st0 μ := by
  intro p e s m args below meth c H locs ls hC hcs hR hS hl
  obtain ⟨hx, hb, hr, hml, hown, hts, hlk, hU, hφ⟩ := hC
  subst hst
  have ha := xWs_at (D := x.2.1) (b := x.2.2.1) (μ := μ) hk2
  rw [xE_obj hk] at ha
  have run := va_runV (C := n.cls) (b := x.2.2.1 + k) (As := As) (rest := rest) (g := F0 m pc ls (As.reverse ++ .ref (x.2.2.1 + k) :: rest)) (locs := locs) (cells := cs.1) (slots := cs.2) (below := below) (e := e) (meth := meth) ⟨hx, hb, hml, hown, hts⟩ hM ⟨xCal.b ⟨hx, hb, hr, hml, hown, hts, hlk, hU, hφ⟩ hcal hlink hroom, hts _ hin, hts _ hsel⟩ ⟨xPc_blind _ _ _, va_recv hU.1 hR.1 hc ha, fun U hUh hW => ⟨rfl, by rw [hUh]; exact hR, xU_moved hU hS hUh hW⟩⟩ rfl rfl (by rw [← hml]; exact hl.1.trans hml.symm) rfl (lv_room hsum) hd hcs
  refine va_calli run hS (fun _ _ h => h) (fun _ h => h) (fun r u t H1 locs1 ht hvm hw hB _ _ hS1 => ?_)
  obtain ⟨v, rfl, hv, hq⟩ := hw
  have hR1 : xR x u H1 := by rw [← ht]; exact hB
  exact kk v u hv hR1.2 hq p e s m args below meth c H1 locs1 ls ⟨hx, hb, hr, hml, hown, hts, hlk, hU, hφ⟩ hcs hR1 hS1 hl
theorem x_callVz {x : xX} {y : xY} {cs : Nat × Nat} {Qf : List Frame → Array Value → State → State → Prop} {pc : Nat} {lv : List (Nat × Value)} {μ : xM} {n : MethodName} {cc : ByteArray} {nL d idx k ci : Nat} {ret : Option FieldType} {ks : List Nat} {As rest st0 : List Value} {T : u_T} {N : Nat} (hcal : xCal n cc nL ret As.length) (hin : Cond.instanceMethod n ∈ xTb) (hsel : Cond.selects n.cls n n ∈ xTb) (hk : lay k = (0, ci, ks)) (hk2 : k < 281) (hc : vwCl[ci]? = some (n.cls, T, N)) {Q : Int → xM → Prop} (hM : xMet x d n cc nL ret (.ref (x.2.2.1 + k) :: As) μ (xQz x Q)) (hst : st0 = As.reverse ++ .ref (x.2.2.1 + k) :: rest) (hlink : Cond.methodLink y.2.1 idx n ∈ xTb) (hroom : d + 1 ≤ y.1.frames ∧ 40 * d + 40 ≤ y.1.locals) (hsum : (rest.map fun v => v.category).sum ≤ 8) (hd : decode y.2.2.1 pc = .ok (.invokevirtual idx, 3)) (kk : ∀ (r : Int) (μ' : xM), (r = 0 ∨ r = 1) → xRan μ' → Q r μ' → xG x y cs Qf (pc + 3) lv (iV r :: rest) μ') : xG x y cs Qf pc lv st0 μ := by
  intro p e s m args below meth c H locs ls hC hcs hR hS hl
  obtain ⟨hx, hb, hr, hml, hown, hts, hlk, hU, hφ⟩ := hC
  subst hst
  have ha := xWs_at (D := x.2.1) (b := x.2.2.1) (μ := μ) hk2
  rw [xE_obj hk] at ha
  have run := va_runV (C := n.cls) (b := x.2.2.1 + k) (As := As) (rest := rest) (g := F0 m pc ls (As.reverse ++ .ref (x.2.2.1 + k) :: rest)) (locs := locs) (cells := cs.1) (slots := cs.2) (below := below) (e := e) (meth := meth) ⟨hx, hb, hml, hown, hts⟩ hM ⟨xCal.b ⟨hx, hb, hr, hml, hown, hts, hlk, hU, hφ⟩ hcal hlink hroom, hts _ hin, hts _ hsel⟩ ⟨xPc_blind _ _ _, va_recv hU.1 hR.1 hc ha, fun U hUh hW => ⟨rfl, by rw [hUh]; exact hR, xU_moved hU hS hUh hW⟩⟩ rfl rfl (by rw [← hml]; exact hl.1.trans hml.symm) rfl (lv_room hsum) hd hcs
  refine va_calli run hS (fun _ _ h => h) (fun _ h => h) (fun r u t H1 locs1 ht hvm hw hB _ _ hS1 => ?_)
  obtain ⟨v, rfl, hv, hq⟩ := hw
  have hR1 : xR x u H1 := by rw [← ht]; exact hB
  exact kk v u hv hR1.2 hq p e s m args below meth c H1 locs1 ls ⟨hx, hb, hr, hml, hown, hts, hlk, hU, hφ⟩ hcs hR1 hS1 hl
theorem x_callVl {x : xX} {y : xY} {cs : Nat × Nat} {Qf : List Frame → Array Value → State → State → Prop} {pc : Nat} {lv : List (Nat × Value)} {μ : xM} {n : MethodName} {cc : ByteArray} {nL d idx k ci : Nat} {ret : Option FieldType} {ks : List Nat} {As rest st0 : List Value} {T : u_T} {N : Nat} (hcal : xCal n cc nL ret As.length) (hin : Cond.instanceMethod n ∈ xTb) (hsel : Cond.selects n.cls n n ∈ xTb) (hk : lay k = (0, ci, ks)) (hk2 : k < 281) (hc : vwCl[ci]? = some (n.cls, T, N)) {Q : Int → xM → Prop} (hM : xMet x d n cc nL ret (.ref (x.2.2.1 + k) :: As) μ (xQl x Q)) (hst : st0 = As.reverse ++ .ref (x.2.2.1 + k) :: rest) (hlink : Cond.methodLink y.2.1 idx n ∈ xTb) (hroom : d + 1 ≤ y.1.frames ∧ 40 * d + 40 ≤ y.1.locals) (hsum : (rest.map fun v => v.category).sum ≤ 8) (hd : decode y.2.2.1 pc = .ok (.invokevirtual idx, 3)) (kk : ∀ (r : Int) (μ' : xM), xIl r → xRan μ' → Q r μ' → xG x y cs Qf (pc + 3) lv (jV r :: rest) μ') : xG x y cs Qf pc lv st0 μ := by
  intro p e s m args below meth c H locs ls hC hcs hR hS hl
  obtain ⟨hx, hb, hr, hml, hown, hts, hlk, hU, hφ⟩ := hC
  subst hst
  have ha := xWs_at (D := x.2.1) (b := x.2.2.1) (μ := μ) hk2
  rw [xE_obj hk] at ha
  have run := va_runV (C := n.cls) (b := x.2.2.1 + k) (As := As) (rest := rest) (g := F0 m pc ls (As.reverse ++ .ref (x.2.2.1 + k) :: rest)) (locs := locs) (cells := cs.1) (slots := cs.2) (below := below) (e := e) (meth := meth) ⟨hx, hb, hml, hown, hts⟩ hM ⟨xCal.b ⟨hx, hb, hr, hml, hown, hts, hlk, hU, hφ⟩ hcal hlink hroom, hts _ hin, hts _ hsel⟩ ⟨xPc_blind _ _ _, va_recv hU.1 hR.1 hc ha, fun U hUh hW => ⟨rfl, by rw [hUh]; exact hR, xU_moved hU hS hUh hW⟩⟩ rfl rfl (by rw [← hml]; exact hl.1.trans hml.symm) rfl (lv_room hsum) hd hcs
  refine va_calll run hS (fun _ _ h => h) (fun _ h => h) (fun r u t H1 locs1 ht hvm hw hB _ _ hS1 => ?_)
  obtain ⟨v, rfl, hv, hq⟩ := hw
  have hR1 : xR x u H1 := by rw [← ht]; exact hB
  exact kk v u hv hR1.2 hq p e s m args below meth c H1 locs1 ls ⟨hx, hb, hr, hml, hown, hts, hlk, hU, hφ⟩ hcs hR1 hS1 hl
theorem x_callVv {x : xX} {y : xY} {cs : Nat × Nat} {Qf : List Frame → Array Value → State → State → Prop} {pc : Nat} {lv : List (Nat × Value)} {μ : xM} {n : MethodName} {cc : ByteArray} {nL d idx k ci : Nat} {ret : Option FieldType} {ks : List Nat} {As rest st0 : List Value} {T : u_T} {N : Nat} (hcal : xCal n cc nL ret As.length) (hin : Cond.instanceMethod n ∈ xTb) (hsel : Cond.selects n.cls n n ∈ xTb) (hk : lay k = (0, ci, ks)) (hk2 : k < 281) (hc : vwCl[ci]? = some (n.cls, T, N)) {Q : xM → Prop} (hM : xMet x d n cc nL ret (.ref (x.2.2.1 + k) :: As) μ (xQv x Q)) (hst : st0 = As.reverse ++ .ref (x.2.2.1 + k) :: rest) (hlink : Cond.methodLink y.2.1 idx n ∈ xTb) (hroom : d + 1 ≤ y.1.frames ∧ 40 * d + 40 ≤ y.1.locals) (hsum : (rest.map fun v => v.category).sum ≤ 8) (hd : decode y.2.2.1 pc = .ok (.invokevirtual idx, 3)) (kk : ∀ μ' : xM, xRan μ' → Q μ' → xG x y cs Qf (pc + 3) lv rest μ') : xG x y cs Qf pc lv st0 μ := by
  intro p e s m args below meth c H locs ls hC hcs hR hS hl
  obtain ⟨hx, hb, hr, hml, hown, hts, hlk, hU, hφ⟩ := hC
  subst hst
  have ha := xWs_at (D := x.2.1) (b := x.2.2.1) (μ := μ) hk2
  rw [xE_obj hk] at ha
  have run := va_runV (C := n.cls) (b := x.2.2.1 + k) (As := As) (rest := rest) (g := F0 m pc ls (As.reverse ++ .ref (x.2.2.1 + k) :: rest)) (locs := locs) (cells := cs.1) (slots := cs.2) (below := below) (e := e) (meth := meth) ⟨hx, hb, hml, hown, hts⟩ hM ⟨xCal.b ⟨hx, hb, hr, hml, hown, hts, hlk, hU, hφ⟩ hcal hlink hroom, hts _ hin, hts _ hsel⟩ ⟨xPc_blind _ _ _, va_recv hU.1 hR.1 hc ha, fun U hUh hW => ⟨rfl, by rw [hUh]; exact hR, xU_moved hU hS hUh hW⟩⟩ rfl rfl (by rw [← hml]; exact hl.1.trans hml.symm) rfl (lv_room hsum) hd hcs
  refine va_callv run hS (fun _ _ h => h) (fun _ h => h) (fun u t H1 locs1 ht hvm hw hB _ _ hS1 => ?_)
  have hR1 : xR x u H1 := by rw [← ht]; exact hB
  exact kk u hR1.2 hw p e s m args below meth c H1 locs1 ls ⟨hx, hb, hr, hml, hown, hts, hlk, hU, hφ⟩ hcs hR1 hS1 hl
theorem x_callVr {x : xX} {y : xY} {cs : Nat × Nat} {Qf : List Frame → Array Value → State → State → Prop} {pc : Nat} {lv : List (Nat × Value)} {μ : xM} {n : MethodName} {cc : ByteArray} {nL d idx k ci : Nat} {ret : Option FieldType} {ks : List Nat} {As rest st0 : List Value} {T : u_T} {N : Nat} (hcal : xCal n cc nL ret As.length) (hin : Cond.instanceMethod n ∈ xTb) (hsel : Cond.selects n.cls n n ∈ xTb) (hk : lay k = (0, ci, ks)) (hk2 : k < 281) (hc : vwCl[ci]? = some (n.cls, T, N)) {Q : Nat → xM → Prop} (hM : xMet x d n cc nL ret (.ref (x.2.2.1 + k) :: As) μ (xQr x Q)) (hst : st0 = As.reverse ++ .ref (x.2.2.1 + k) :: rest) (hlink : Cond.methodLink y.2.1 idx n ∈ xTb) (hroom : d + 1 ≤ y.1.frames ∧ 40 * d + 40 ≤ y.1.locals) (hsum : (rest.map fun v => v.category).sum ≤ 8) (hd : decode y.2.2.1 pc = .ok (.invokevirtual idx, 3)) (kk : ∀ (r : Nat) (μ' : xM), xRan μ' → Q r μ' → xG x y cs Qf (pc + 3) lv (.ref (x.2.2.1 + r) :: rest) μ') : xG x y cs Qf pc lv st0 μ := by
  intro p e s m args below meth c H locs ls hC hcs hR hS hl
  obtain ⟨hx, hb, hr, hml, hown, hts, hlk, hU, hφ⟩ := hC
  subst hst
  have ha := xWs_at (D := x.2.1) (b := x.2.2.1) (μ := μ) hk2
  rw [xE_obj hk] at ha
  have run := va_runV (C := n.cls) (b := x.2.2.1 + k) (As := As) (rest := rest) (g := F0 m pc ls (As.reverse ++ .ref (x.2.2.1 + k) :: rest)) (locs := locs) (cells := cs.1) (slots := cs.2) (below := below) (e := e) (meth := meth) ⟨hx, hb, hml, hown, hts⟩ hM ⟨xCal.b ⟨hx, hb, hr, hml, hown, hts, hlk, hU, hφ⟩ hcal hlink hroom, hts _ hin, hts _ hsel⟩ ⟨xPc_blind _ _ _, va_recv hU.1 hR.1 hc ha, fun U hUh hW => ⟨rfl, by rw [hUh]; exact hR, xU_moved hU hS hUh hW⟩⟩ rfl rfl (by rw [← hml]; exact hl.1.trans hml.symm) rfl (lv_room hsum) hd hcs
  refine va_callr run hS (fun _ _ h => h) (fun _ h => h) (fun u ra t H1 locs1 ht hvm hw hB _ _ hS1 => ?_)
  obtain ⟨rfl, hB⟩ := hB
  have hR1 : xR x u.2 H1 := by rw [← ht]; exact hB
  exact kk u.1 u.2 hR1.2 hw p e s m args below meth c H1 locs1 ls ⟨hx, hb, hr, hml, hown, hts, hlk, hU, hφ⟩ hcs hR1 hS1 hl
theorem x_callSi {x : xX} {y : xY} {cs : Nat × Nat} {Qf : List Frame → Array Value → State → State → Prop} {pc : Nat} {lv : List (Nat × Value)} {μ : xM} {n : MethodName} {cc : ByteArray} {nL d idx : Nat} {ret : Option FieldType} {As rest st0 : List Value} (hcal : xCal n cc nL ret As.length) (hsta : Cond.static n ∈ xTb) {Q : Int → xM → Prop} (hM : xMet x d n cc nL ret As μ (xQi x Q)) (hst : st0 = As.reverse ++ rest) (hlink : Cond.methodLink y.2.1 idx n ∈ xTb) (hroom : d + 1 ≤ y.1.frames ∧ 40 * d + 40 ≤ y.1.locals) (hsum : (rest.map fun v => v.category).sum ≤ 8) (hd : decode y.2.2.1 pc = .ok (.invokestatic idx, 3)) (kk : ∀ (r : Int) (μ' : xM), xIn r → xRan μ' → Q r μ' → xG x y cs Qf (pc + 3) lv (iV r :: rest) μ') : xG x y cs Qf pc lv st0 μ := by
  intro p e s m args below meth c H locs ls hC hcs hR hS hl
  obtain ⟨hx, hb, hr, hml, hown, hts, hlk, hU, hφ⟩ := hC
  subst hst
  have run := va_runS (As := As) (rest := rest) (g := F0 m pc ls (As.reverse ++ rest)) (locs := locs) (cells := cs.1) (slots := cs.2) (below := below) (e := e) (meth := meth) ⟨hx, hb, hml, hown, hts⟩ hM ⟨xCal.b ⟨hx, hb, hr, hml, hown, hts, hlk, hU, hφ⟩ hcal hlink hroom, hts _ hsta⟩ ⟨xPc_blind _ _ _, fun U hUh hW => ⟨rfl, by rw [hUh]; exact hR, xU_moved hU hS hUh hW⟩⟩ rfl rfl (by rw [← hml]; exact hl.1.trans hml.symm) rfl (lv_room hsum) hd hcs
  refine va_calli run hS (fun _ _ h => h) (fun _ h => h) (fun r u t H1 locs1 ht hvm hw hB _ _ hS1 => ?_)
  obtain ⟨v, rfl, hv, hq⟩ := hw
  have hR1 : xR x u H1 := by rw [← ht]; exact hB
  exact kk v u hv hR1.2 hq p e s m args below meth c H1 locs1 ls ⟨hx, hb, hr, hml, hown, hts, hlk, hU, hφ⟩ hcs hR1 hS1 hl
theorem x_callSz {x : xX} {y : xY} {cs : Nat × Nat} {Qf : List Frame → Array Value → State → State → Prop} {pc : Nat} {lv : List (Nat × Value)} {μ : xM} {n : MethodName} {cc : ByteArray} {nL d idx : Nat} {ret : Option FieldType} {As rest st0 : List Value} (hcal : xCal n cc nL ret As.length) (hsta : Cond.static n ∈ xTb) {Q : Int → xM → Prop} (hM : xMet x d n cc nL ret As μ (xQz x Q)) (hst : st0 = As.reverse ++ rest) (hlink : Cond.methodLink y.2.1 idx n ∈ xTb) (hroom : d + 1 ≤ y.1.frames ∧ 40 * d + 40 ≤ y.1.locals) (hsum : (rest.map fun v => v.category).sum ≤ 8) (hd : decode y.2.2.1 pc = .ok (.invokestatic idx, 3)) (kk : ∀ (r : Int) (μ' : xM), (r = 0 ∨ r = 1) → xRan μ' → Q r μ' → xG x y cs Qf (pc + 3) lv (iV r :: rest) μ') : xG x y cs Qf pc lv st0 μ := by
  intro p e s m args below meth c H locs ls hC hcs hR hS hl
  obtain ⟨hx, hb, hr, hml, hown, hts, hlk, hU, hφ⟩ := hC
  subst hst
  have run := va_runS (As := As) (rest := rest) (g := F0 m pc ls (As.reverse ++ rest)) (locs := locs) (cells := cs.1) (slots := cs.2) (below := below) (e := e) (meth := meth) ⟨hx, hb, hml, hown, hts⟩ hM ⟨xCal.b ⟨hx, hb, hr, hml, hown, hts, hlk, hU, hφ⟩ hcal hlink hroom, hts _ hsta⟩ ⟨xPc_blind _ _ _, fun U hUh hW => ⟨rfl, by rw [hUh]; exact hR, xU_moved hU hS hUh hW⟩⟩ rfl rfl (by rw [← hml]; exact hl.1.trans hml.symm) rfl (lv_room hsum) hd hcs
  refine va_calli run hS (fun _ _ h => h) (fun _ h => h) (fun r u t H1 locs1 ht hvm hw hB _ _ hS1 => ?_)
  obtain ⟨v, rfl, hv, hq⟩ := hw
  have hR1 : xR x u H1 := by rw [← ht]; exact hB
  exact kk v u hv hR1.2 hq p e s m args below meth c H1 locs1 ls ⟨hx, hb, hr, hml, hown, hts, hlk, hU, hφ⟩ hcs hR1 hS1 hl
theorem x_callSl {x : xX} {y : xY} {cs : Nat × Nat} {Qf : List Frame → Array Value → State → State → Prop} {pc : Nat} {lv : List (Nat × Value)} {μ : xM} {n : MethodName} {cc : ByteArray} {nL d idx : Nat} {ret : Option FieldType} {As rest st0 : List Value} (hcal : xCal n cc nL ret As.length) (hsta : Cond.static n ∈ xTb) {Q : Int → xM → Prop} (hM : xMet x d n cc nL ret As μ (xQl x Q)) (hst : st0 = As.reverse ++ rest) (hlink : Cond.methodLink y.2.1 idx n ∈ xTb) (hroom : d + 1 ≤ y.1.frames ∧ 40 * d + 40 ≤ y.1.locals) (hsum : (rest.map fun v => v.category).sum ≤ 8) (hd : decode y.2.2.1 pc = .ok (.invokestatic idx, 3)) (kk : ∀ (r : Int) (μ' : xM), xIl r → xRan μ' → Q r μ' → xG x y cs Qf (pc + 3) lv (jV r :: rest) μ') : xG x y cs Qf pc lv st0 μ := by
  intro p e s m args below meth c H locs ls hC hcs hR hS hl
  obtain ⟨hx, hb, hr, hml, hown, hts, hlk, hU, hφ⟩ := hC
  subst hst
  have run := va_runS (As := As) (rest := rest) (g := F0 m pc ls (As.reverse ++ rest)) (locs := locs) (cells := cs.1) (slots := cs.2) (below := below) (e := e) (meth := meth) ⟨hx, hb, hml, hown, hts⟩ hM ⟨xCal.b ⟨hx, hb, hr, hml, hown, hts, hlk, hU, hφ⟩ hcal hlink hroom, hts _ hsta⟩ ⟨xPc_blind _ _ _, fun U hUh hW => ⟨rfl, by rw [hUh]; exact hR, xU_moved hU hS hUh hW⟩⟩ rfl rfl (by rw [← hml]; exact hl.1.trans hml.symm) rfl (lv_room hsum) hd hcs
  refine va_calll run hS (fun _ _ h => h) (fun _ h => h) (fun r u t H1 locs1 ht hvm hw hB _ _ hS1 => ?_)
  obtain ⟨v, rfl, hv, hq⟩ := hw
  have hR1 : xR x u H1 := by rw [← ht]; exact hB
  exact kk v u hv hR1.2 hq p e s m args below meth c H1 locs1 ls ⟨hx, hb, hr, hml, hown, hts, hlk, hU, hφ⟩ hcs hR1 hS1 hl
theorem x_callSv {x : xX} {y : xY} {cs : Nat × Nat} {Qf : List Frame → Array Value → State → State → Prop} {pc : Nat} {lv : List (Nat × Value)} {μ : xM} {n : MethodName} {cc : ByteArray} {nL d idx : Nat} {ret : Option FieldType} {As rest st0 : List Value} (hcal : xCal n cc nL ret As.length) (hsta : Cond.static n ∈ xTb) {Q : xM → Prop} (hM : xMet x d n cc nL ret As μ (xQv x Q)) (hst : st0 = As.reverse ++ rest) (hlink : Cond.methodLink y.2.1 idx n ∈ xTb) (hroom : d + 1 ≤ y.1.frames ∧ 40 * d + 40 ≤ y.1.locals) (hsum : (rest.map fun v => v.category).sum ≤ 8) (hd : decode y.2.2.1 pc = .ok (.invokestatic idx, 3)) (kk : ∀ μ' : xM, xRan μ' → Q μ' → xG x y cs Qf (pc + 3) lv rest μ') : xG x y cs Qf pc lv st0 μ := by
  intro p e s m args below meth c H locs ls hC hcs hR hS hl
  obtain ⟨hx, hb, hr, hml, hown, hts, hlk, hU, hφ⟩ := hC
  subst hst
  have run := va_runS (As := As) (rest := rest) (g := F0 m pc ls (As.reverse ++ rest)) (locs := locs) (cells := cs.1) (slots := cs.2) (below := below) (e := e) (meth := meth) ⟨hx, hb, hml, hown, hts⟩ hM ⟨xCal.b ⟨hx, hb, hr, hml, hown, hts, hlk, hU, hφ⟩ hcal hlink hroom, hts _ hsta⟩ ⟨xPc_blind _ _ _, fun U hUh hW => ⟨rfl, by rw [hUh]; exact hR, xU_moved hU hS hUh hW⟩⟩ rfl rfl (by rw [← hml]; exact hl.1.trans hml.symm) rfl (lv_room hsum) hd hcs
  refine va_callv run hS (fun _ _ h => h) (fun _ h => h) (fun u t H1 locs1 ht hvm hw hB _ _ hS1 => ?_)
  have hR1 : xR x u H1 := by rw [← ht]; exact hB
  exact kk u hR1.2 hw p e s m args below meth c H1 locs1 ls ⟨hx, hb, hr, hml, hown, hts, hlk, hU, hφ⟩ hcs hR1 hS1 hl
theorem x_callSr {x : xX} {y : xY} {cs : Nat × Nat} {Qf : List Frame → Array Value → State → State → Prop} {pc : Nat} {lv : List (Nat × Value)} {μ : xM} {n : MethodName} {cc : ByteArray} {nL d idx : Nat} {ret : Option FieldType} {As rest st0 : List Value} (hcal : xCal n cc nL ret As.length) (hsta : Cond.static n ∈ xTb) {Q : Nat → xM → Prop} (hM : xMet x d n cc nL ret As μ (xQr x Q)) (hst : st0 = As.reverse ++ rest) (hlink : Cond.methodLink y.2.1 idx n ∈ xTb) (hroom : d + 1 ≤ y.1.frames ∧ 40 * d + 40 ≤ y.1.locals) (hsum : (rest.map fun v => v.category).sum ≤ 8) (hd : decode y.2.2.1 pc = .ok (.invokestatic idx, 3)) (kk : ∀ (r : Nat) (μ' : xM), xRan μ' → Q r μ' → xG x y cs Qf (pc + 3) lv (.ref (x.2.2.1 + r) :: rest) μ') : xG x y cs Qf pc lv st0 μ := by
  intro p e s m args below meth c H locs ls hC hcs hR hS hl
  obtain ⟨hx, hb, hr, hml, hown, hts, hlk, hU, hφ⟩ := hC
  subst hst
  have run := va_runS (As := As) (rest := rest) (g := F0 m pc ls (As.reverse ++ rest)) (locs := locs) (cells := cs.1) (slots := cs.2) (below := below) (e := e) (meth := meth) ⟨hx, hb, hml, hown, hts⟩ hM ⟨xCal.b ⟨hx, hb, hr, hml, hown, hts, hlk, hU, hφ⟩ hcal hlink hroom, hts _ hsta⟩ ⟨xPc_blind _ _ _, fun U hUh hW => ⟨rfl, by rw [hUh]; exact hR, xU_moved hU hS hUh hW⟩⟩ rfl rfl (by rw [← hml]; exact hl.1.trans hml.symm) rfl (lv_room hsum) hd hcs
  refine va_callr run hS (fun _ _ h => h) (fun _ h => h) (fun u ra t H1 locs1 ht hvm hw hB _ _ hS1 => ?_)
  obtain ⟨rfl, hB⟩ := hB
  have hR1 : xR x u.2 H1 := by rw [← ht]; exact hB
  exact kk u.1 u.2 hR1.2 hw p e s m args below meth c H1 locs1 ls ⟨hx, hb, hr, hml, hown, hts, hlk, hU, hφ⟩ hcs hR1 hS1 hl
theorem x_loop0 {x : xX} {y : xY} {cs : Nat × Nat} {Qf : List Frame → Array Value → State → State → Prop} {pc : Nat} {st : List Value} (L : List (Nat × Value)) {μ : xM} {body : (xM → Prop) → xM → Prop} (h : xLoop0  μ body)
    (hb : ∀ (J : xM → Prop) (μ : xM), (∀ (μ' : xM), J  μ' → xG x y cs Qf pc (L ) st μ') → body J  μ → xRan μ → xG x y cs Qf pc (L ) st μ) : xG x y cs Qf pc (L ) st μ := by
  obtain ⟨I, ⟨n, h0⟩, hs⟩ := h
  induction n using Nat.strongRecOn generalizing  μ with
  | _ n ih =>
    exact x_ran (fun hr => hb _  μ (fun  μ' hJ => by obtain ⟨n', h1, h2⟩ := hJ; exact ih n' h1 h2) (hs n  μ h0 hr) hr)
theorem x_loop1 {x : xX} {y : xY} {cs : Nat × Nat} {Qf : List Frame → Array Value → State → State → Prop} {pc : Nat} {st : List Value} (L : Int → List (Nat × Value)) {a0 : Int} {μ : xM} {body : (Int → xM → Prop) → Int → xM → Prop} (h : xLoop1 a0 μ body)
    (hb : ∀ (J : Int → xM → Prop) (a0 : Int) (μ : xM), (∀ (a0' : Int) (μ' : xM), J a0' μ' → xG x y cs Qf pc (L a0') st μ') → body J a0 μ → xRan μ → xG x y cs Qf pc (L a0) st μ) : xG x y cs Qf pc (L a0) st μ := by
  obtain ⟨I, ⟨n, h0⟩, hs⟩ := h
  induction n using Nat.strongRecOn generalizing a0 μ with
  | _ n ih =>
    exact x_ran (fun hr => hb _ a0 μ (fun a0' μ' hJ => by obtain ⟨n', h1, h2⟩ := hJ; exact ih n' h1 h2) (hs n a0 μ h0 hr) hr)
theorem x_loop2 {x : xX} {y : xY} {cs : Nat × Nat} {Qf : List Frame → Array Value → State → State → Prop} {pc : Nat} {st : List Value} (L : Int → Int → List (Nat × Value)) {a0 a1 : Int} {μ : xM} {body : (Int → Int → xM → Prop) → Int → Int → xM → Prop} (h : xLoop2 a0 a1 μ body)
    (hb : ∀ (J : Int → Int → xM → Prop) (a0 a1 : Int) (μ : xM), (∀ (a0' a1' : Int) (μ' : xM), J a0' a1' μ' → xG x y cs Qf pc (L a0' a1') st μ') → body J a0 a1 μ → xRan μ → xG x y cs Qf pc (L a0 a1) st μ) : xG x y cs Qf pc (L a0 a1) st μ := by
  obtain ⟨I, ⟨n, h0⟩, hs⟩ := h
  induction n using Nat.strongRecOn generalizing a0 a1 μ with
  | _ n ih =>
    exact x_ran (fun hr => hb _ a0 a1 μ (fun a0' a1' μ' hJ => by obtain ⟨n', h1, h2⟩ := hJ; exact ih n' h1 h2) (hs n a0 a1 μ h0 hr) hr)
theorem x_loop3 {x : xX} {y : xY} {cs : Nat × Nat} {Qf : List Frame → Array Value → State → State → Prop} {pc : Nat} {st : List Value} (L : Int → Int → Int → List (Nat × Value)) {a0 a1 a2 : Int} {μ : xM} {body : (Int → Int → Int → xM → Prop) → Int → Int → Int → xM → Prop} (h : xLoop3 a0 a1 a2 μ body)
    (hb : ∀ (J : Int → Int → Int → xM → Prop) (a0 a1 a2 : Int) (μ : xM), (∀ (a0' a1' a2' : Int) (μ' : xM), J a0' a1' a2' μ' → xG x y cs Qf pc (L a0' a1' a2') st μ') → body J a0 a1 a2 μ → xRan μ → xG x y cs Qf pc (L a0 a1 a2) st μ) : xG x y cs Qf pc (L a0 a1 a2) st μ := by
  obtain ⟨I, ⟨n, h0⟩, hs⟩ := h
  induction n using Nat.strongRecOn generalizing a0 a1 a2 μ with
  | _ n ih =>
    exact x_ran (fun hr => hb _ a0 a1 a2 μ (fun a0' a1' a2' μ' hJ => by obtain ⟨n', h1, h2⟩ := hJ; exact ih n' h1 h2) (hs n a0 a1 a2 μ h0 hr) hr)
theorem x_loop4 {x : xX} {y : xY} {cs : Nat × Nat} {Qf : List Frame → Array Value → State → State → Prop} {pc : Nat} {st : List Value} (L : Int → Int → Int → Int → List (Nat × Value)) {a0 a1 a2 a3 : Int} {μ : xM} {body : (Int → Int → Int → Int → xM → Prop) → Int → Int → Int → Int → xM → Prop} (h : xLoop4 a0 a1 a2 a3 μ body)
    (hb : ∀ (J : Int → Int → Int → Int → xM → Prop) (a0 a1 a2 a3 : Int) (μ : xM), (∀ (a0' a1' a2' a3' : Int) (μ' : xM), J a0' a1' a2' a3' μ' → xG x y cs Qf pc (L a0' a1' a2' a3') st μ') → body J a0 a1 a2 a3 μ → xRan μ → xG x y cs Qf pc (L a0 a1 a2 a3) st μ) : xG x y cs Qf pc (L a0 a1 a2 a3) st μ := by
  obtain ⟨I, ⟨n, h0⟩, hs⟩ := h
  induction n using Nat.strongRecOn generalizing a0 a1 a2 a3 μ with
  | _ n ih =>
    exact x_ran (fun hr => hb _ a0 a1 a2 a3 μ (fun a0' a1' a2' a3' μ' hJ => by obtain ⟨n', h1, h2⟩ := hJ; exact ih n' h1 h2) (hs n a0 a1 a2 a3 μ h0 hr) hr)
theorem x_loop5 {x : xX} {y : xY} {cs : Nat × Nat} {Qf : List Frame → Array Value → State → State → Prop} {pc : Nat} {st : List Value} (L : Int → Int → Int → Int → Int → List (Nat × Value)) {a0 a1 a2 a3 a4 : Int} {μ : xM} {body : (Int → Int → Int → Int → Int → xM → Prop) → Int → Int → Int → Int → Int → xM → Prop} (h : xLoop5 a0 a1 a2 a3 a4 μ body)
    (hb : ∀ (J : Int → Int → Int → Int → Int → xM → Prop) (a0 a1 a2 a3 a4 : Int) (μ : xM), (∀ (a0' a1' a2' a3' a4' : Int) (μ' : xM), J a0' a1' a2' a3' a4' μ' → xG x y cs Qf pc (L a0' a1' a2' a3' a4') st μ') → body J a0 a1 a2 a3 a4 μ → xRan μ → xG x y cs Qf pc (L a0 a1 a2 a3 a4) st μ) : xG x y cs Qf pc (L a0 a1 a2 a3 a4) st μ := by
  obtain ⟨I, ⟨n, h0⟩, hs⟩ := h
  induction n using Nat.strongRecOn generalizing a0 a1 a2 a3 a4 μ with
  | _ n ih =>
    exact x_ran (fun hr => hb _ a0 a1 a2 a3 a4 μ (fun a0' a1' a2' a3' a4' μ' hJ => by obtain ⟨n', h1, h2⟩ := hJ; exact ih n' h1 h2) (hs n a0 a1 a2 a3 a4 μ h0 hr) hr)
theorem x_loop6 {x : xX} {y : xY} {cs : Nat × Nat} {Qf : List Frame → Array Value → State → State → Prop} {pc : Nat} {st : List Value} (L : Int → Int → Int → Int → Int → Int → List (Nat × Value)) {a0 a1 a2 a3 a4 a5 : Int} {μ : xM} {body : (Int → Int → Int → Int → Int → Int → xM → Prop) → Int → Int → Int → Int → Int → Int → xM → Prop} (h : xLoop6 a0 a1 a2 a3 a4 a5 μ body)
    (hb : ∀ (J : Int → Int → Int → Int → Int → Int → xM → Prop) (a0 a1 a2 a3 a4 a5 : Int) (μ : xM), (∀ (a0' a1' a2' a3' a4' a5' : Int) (μ' : xM), J a0' a1' a2' a3' a4' a5' μ' → xG x y cs Qf pc (L a0' a1' a2' a3' a4' a5') st μ') → body J a0 a1 a2 a3 a4 a5 μ → xRan μ → xG x y cs Qf pc (L a0 a1 a2 a3 a4 a5) st μ) : xG x y cs Qf pc (L a0 a1 a2 a3 a4 a5) st μ := by
  obtain ⟨I, ⟨n, h0⟩, hs⟩ := h
  induction n using Nat.strongRecOn generalizing a0 a1 a2 a3 a4 a5 μ with
  | _ n ih =>
    exact x_ran (fun hr => hb _ a0 a1 a2 a3 a4 a5 μ (fun a0' a1' a2' a3' a4' a5' μ' hJ => by obtain ⟨n', h1, h2⟩ := hJ; exact ih n' h1 h2) (hs n a0 a1 a2 a3 a4 a5 μ h0 hr) hr)
theorem x_loop7 {x : xX} {y : xY} {cs : Nat × Nat} {Qf : List Frame → Array Value → State → State → Prop} {pc : Nat} {st : List Value} (L : Int → Int → Int → Int → Int → Int → Int → List (Nat × Value)) {a0 a1 a2 a3 a4 a5 a6 : Int} {μ : xM} {body : (Int → Int → Int → Int → Int → Int → Int → xM → Prop) → Int → Int → Int → Int → Int → Int → Int → xM → Prop} (h : xLoop7 a0 a1 a2 a3 a4 a5 a6 μ body)
    (hb : ∀ (J : Int → Int → Int → Int → Int → Int → Int → xM → Prop) (a0 a1 a2 a3 a4 a5 a6 : Int) (μ : xM), (∀ (a0' a1' a2' a3' a4' a5' a6' : Int) (μ' : xM), J a0' a1' a2' a3' a4' a5' a6' μ' → xG x y cs Qf pc (L a0' a1' a2' a3' a4' a5' a6') st μ') → body J a0 a1 a2 a3 a4 a5 a6 μ → xRan μ → xG x y cs Qf pc (L a0 a1 a2 a3 a4 a5 a6) st μ) : xG x y cs Qf pc (L a0 a1 a2 a3 a4 a5 a6) st μ := by
  obtain ⟨I, ⟨n, h0⟩, hs⟩ := h
  induction n using Nat.strongRecOn generalizing a0 a1 a2 a3 a4 a5 a6 μ with
  | _ n ih =>
    exact x_ran (fun hr => hb _ a0 a1 a2 a3 a4 a5 a6 μ (fun a0' a1' a2' a3' a4' a5' a6' μ' hJ => by obtain ⟨n', h1, h2⟩ := hJ; exact ih n' h1 h2) (hs n a0 a1 a2 a3 a4 a5 a6 μ h0 hr) hr)
