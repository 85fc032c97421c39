/-! WordTables.led (which throws) and the law's own led (which catches) -/
def rmA : Room := { frames := 12, cells := 1, slots := 6, locals := 500 }
def rmB : Room := { frames := 14, cells := 1, slots := 6, locals := 600 }
def xXC (x : xX) (QX : xM → Prop) : String → State → State → Prop := vx_X (S := xM) QX (fun E μ t => E = "java/util/NoSuchElementException" ∧ xR x μ t.heap) (xA x.2.2.1)
def xPn (x : xX) (as : List Value) (μ : xM) : Array Value → State → Prop := va_Pc as (fun U => xR x μ U.heap ∧ xU x U ∧ xN x U)
theorem xPn_blind (x : xX) (as : List Value) (μ : xM) : FrameBlind (xPn x as μ) := by
  intro a U g mk h
  obtain ⟨h1, h2, ⟨h3, h4, h5, h6, h7⟩, h8, h9, h10⟩ := h
  exact ⟨h1, h2, ⟨va_K.moved (u := U) (U := U.calling g mk a) (Vm.Alike.refl U.vm) h3, fun q hq => vk_R.same (u := U) rfl (h4 q hq), vk_S.moved (u := U) (U := U.calling g mk a) (Vm.Alike.refl U.vm) h5, va_Z.moved (u := U) (U := U.calling g mk a) (Vm.Alike.refl U.vm) h6, va_Zq.moved (u := U) (U := U.calling g mk a) (Vm.Alike.refl U.vm) h7⟩,
    fun w hw => va_Nw.same (leB_on w hw) (u := U) rfl (h8 w hw), vx_Zq.moved (u := U) (U := U.calling g mk a) (Vm.Alike.refl U.vm) h9, vx_Zq.moved (u := U) (U := U.calling g mk a) (Vm.Alike.refl U.vm) h10⟩
def ledF (x : xX) (Q : Int → xM → Prop) (QX : xM → Prop) : List Frame → Array Value → State → State → Prop := fun below args s => vx_MQ below (xQi x Q) (xXC x QX) args s 1 6 (xA x.2.2.1)
abbrev ledY (x : xX) : xY := (rmA, RX10, cX10_led, 3, some .int, fun s c => xN x s ∧ (∀ z ∈ c.exceptionTable.toList, False) ∧ x.1.stackTraces = false)
set_option maxRecDepth 100000 in
theorem cl358 : Cond.classLink RX10 358 "java/util/NoSuchElementException" ∈ xTb := tc6 162 rfl rfl
set_option maxRecDepth 100000 in
theorem cl13 : Cond.classLink RL 13 "java/util/NoSuchElementException" ∈ xTb := tc6 153 rfl rfl
set_option maxRecDepth 100000 in
theorem iniNSE : Cond.initialized "java/util/NoSuchElementException" ∈ xTb := tc1 24 rfl rfl
set_option maxRecDepth 100000 in
theorem ins_X10_led : Cond.instanceMethod yX10_led ∈ xTb := tc6 155 rfl rfl
set_option maxRecDepth 100000 in
theorem sel_X10_led : Cond.selects RX10 yX10_led yX10_led ∈ xTb := tc6 156 rfl rfl
set_option maxRecDepth 100000 in
theorem cod_X10_led : Cond.code yX10_led cX10_led 3 (some .int) ∈ lw_tbl := tl6 157 rfl
set_option maxRecDepth 100000 in
theorem ini_X10 : Cond.initialized RX10 ∈ xTb := tc1 1 rfl rfl
set_option maxRecDepth 100000 in
theorem ini_L : Cond.initialized RL ∈ xTb := tc1 0 rfl rfl
set_option maxRecDepth 100000 in
set_option maxHeartbeats 4000000 in
theorem xled1 (x : xX) (p1 : Int) (μ : xM) (Q : Int → xM → Prop) (QX : xM → Prop) (hp : xIn p1) (hl : x.1.stackTraces = false) (h : tX4_seatedGuest 249 p1 μ (fun g ν => (xIn g) → xRan ν → (g < 0 → QX ν) ∧ (¬ g < 0 → Q g ν))) :
    vx_Met x.1 yX10_led (Cond.code yX10_led cX10_led 3 (some .int) :: xTb) rmA (xPn x [.ref (x.2.2.1 + 0), iV p1] μ) (xQi x Q) (xXC x QX) 1 6 (xA x.2.2.1) := by
  have main : xG x (ledY x) (0, 0) (ledF x Q QX) 0 [(0, .ref (x.2.2.1 + 0)), (1, iV p1)] [] μ := by
    refine x_aload_n 0 rfl dX10_led_0 ?_
    refine x_getR (j := 14) (r := 249) ly0 (by decide) rfl rfl (by decide) inT10 fl_X10_97 dX10_led_1 ?_
    refine x_iload_n 1 rfl dX10_led_4 ?_
    refine x_callVi (As := [iV p1]) (rest := []) cal_X4_seatedGuest ins_X4_seatedGuest sel_X4_seatedGuest ly249 (by decide) rfl (xX4_seatedGuest x 249 p1 _ _ isNight_249 hp h) rfl ml_X10_355 ⟨Nat.le_of_ble_eq_true rfl, Nat.le_of_ble_eq_true rfl⟩ (Nat.le_of_ble_eq_true rfl) dX10_led_5 (fun g ν hg hn h => ?_)
    have h := h hg hn
    refine x_istore_n [(2, iV g), (0, .ref (x.2.2.1 + 0)), (1, iV p1)] dX10_led_8 (show 2 < 3 by decide) rfl ?_
    refine x_iload_n 0 rfl dX10_led_9 ?_
    refine x_ifge (tgt := 21) hg dX10_led_10 (by decide) (fun k => ?_) (fun k => ?_)
    · refine x_iload_n 0 rfl dX10_led_21 ?_
      intro p e s m args below meth c H locs ls hC hcs hR hS hlv
      obtain ⟨hx, hb, hr, hml, hown, hts, hlk, hU, hφ⟩ := hC
      refine vx_ret ?_
      refine W.widen (k := 1) (n := 6) (Nat.zero_le _) (Nat.zero_le _) ?_
      exact W.iret hx hb hr (fun t ht hW => ⟨⟨_, ν, rfl, ⟨g, rfl, hg, h.2 (by omega)⟩, (by show xR x ν t.heap; rw [ht]; exact hR)⟩, hS.F ht⟩) hS.2.2 dX10_led_22 hlk
    · intro p e s m args below meth c H locs ls hC hcs hR hS hlv
      obtain ⟨hx, hb, hr, hml, hown, hts, hlk, hU, hφ⟩ := hC
      refine vx_throw0 (names := ["java/lang/RuntimeException", "java/lang/Exception"]) hx hb hφ.2.2 hown (by decide +kernel) (by decide +kernel) (hts _ cl358) (hts _ iniNSE) (xN_words hφ.1 hts) leAt_ot hφ.1.2.1 hφ.1.2.2 hS (hlv.1.trans hml.symm) dX10_led_13 dX10_led_16 dX10_led_17 dX10_led_20 (fun z hz => (hφ.2.1 z hz).elim) (show 5 < 12 by decide) (Nat.le_of_ble_eq_true rfl) (Nat.le_of_ble_eq_true rfl) (Nat.le_of_ble_eq_true rfl) hlk (fun t hvm hsz hold => ⟨ν, h.1 (by omega), ⟨rfl, ⟨fun k q hk => (hR.1 k q hk).kept (hold _ (hR.1 k q hk).lt), hR.2⟩⟩, ?_⟩) (fun z hz => hS.2.2 z hz) (by decide) (by decide)
      exact ⟨Nat.le_trans hS.1 hsz, fun q h1 h2 => (hold q (Nat.lt_of_lt_of_le h1 hS.1)).trans (hS.2.1 q h1 h2)⟩
  refine vx_ofW (cc := cX10_led) (maxL := 3) (ret := some .int) (by decide +kernel) rfl ?_
  intro p e s m args below meth c s₁ B hml htab hv
  obtain ⟨rfl, hR, hU, hN⟩ := hv
  have hts := atoms_spec (ws := Cond.code yX10_led cX10_led 3 (some .int) :: xTb) B.pre
  rw [lg_entry_eq]
  exact main p e s m _ below meth c s.heap [] _ ⟨B.exec, B.bytes, B.returns, hml, findClass_of_methodNamed B.named, fun w hw => hts w (List.mem_cons_of_mem _ hw), B.notSynchronized, hU, hN, htab, hl⟩ ⟨Nat.zero_le _, Nat.zero_le _⟩ hR va_S.rf (lv_entry [.ref (x.2.2.1 + 0), iV p1] (Nat.le_of_ble_eq_true rfl))
def lledF (x : xX) (Q : Int → xM → Prop) : List Frame → Array Value → State → State → Prop := fun below args s => MQ below (xQi x Q) args s 1 6 (xA x.2.2.1)
abbrev lledY (x : xX) : xY := (rmB, RL, cL_led, 4, some .int, fun s c => xN x s ∧ c.exceptionTable.toList = tableOf [(0, 9, 12, 13)])
theorem lled_ret {x : xX} {Q : Int → xM → Prop} {pc : Nat} {lv : List (Nat × Value)} {μ : xM} {v : Int} (hq : Q v μ) (hv : xIn v) (hd : decode cL_led pc = .ok (.ireturn, 1)) : xG x (lledY x) (1, 6) (lledF x Q) pc lv [iV v] μ := by
  intro p e s m args below meth c H locs ls hC hcs hR hS hlv
  obtain ⟨hx, hb, hr, hml, hown, hts, hlk, hU, hφ⟩ := hC
  exact W.iret hx hb hr (fun t ht hW => ⟨⟨_, μ, rfl, ⟨v, rfl, hv, hq⟩, (by show xR x μ t.heap; rw [ht]; exact hR)⟩, hS.F ht⟩) hS.2.2 hd hlk
set_option maxRecDepth 100000 in
set_option maxHeartbeats 4000000 in
theorem xled2 (x : xX) (p1 : Int) (μ : xM) (Q : Int → xM → Prop) (hp : xIn p1) (hl : x.1.stackTraces = false) (h : tX4_seatedGuest 249 p1 μ (fun g ν => (xIn g) → xRan ν → (g < 0 → Q 1 ν) ∧ (¬ g < 0 → xIn g → ∀ ω : xM, ω = wi ν 280 0 g → xRan ω → Q 0 ω))) :
    Met x.1 yL_led (Cond.codeWith yL_led cL_led 4 (some .int) [(0, 9, 12, 13)] :: xTb) rmB (xPn x [.ref (x.2.2.1 + 0), iV p1, .ref (x.2.2.1 + 280)] μ) (xQi x Q) 1 6 (xA x.2.2.1) := by
  have h1 : tX4_seatedGuest 249 p1 μ (fun g ν => (xIn g) → xRan ν → (g < 0 → Q 1 ν) ∧ (¬ g < 0 → xIn g → ∀ ω : xM, ω = wi ν 280 0 g → xRan ω → Q 0 ω)) := h
  have catch1 : ∀ (ν : xM) (q : Nat), Q 1 ν → xG x (lledY x) (1, 6) (lledF x Q) 12 [(0, .ref (x.2.2.1 + 0)), (1, iV p1), (2, .ref (x.2.2.1 + 280))] [.ref q] ν := by
    intro ν q hq
    refine x_astore_n [(3, .ref q), (0, .ref (x.2.2.1 + 0)), (1, iV p1), (2, .ref (x.2.2.1 + 280))] dL_led_12 (show 3 < 4 by decide) rfl ?_
    refine x_iconst dL_led_13 ?_
    exact lled_ret hq ⟨by decide, by decide⟩ dL_led_14
  have norm1 : ∀ (ν : xM) (g : Int), xIn g → (∀ ω : xM, ω = wi ν 280 0 g → xRan ω → Q 0 ω) → xG x (lledY x) (1, 6) (lledF x Q) 7 [(0, .ref (x.2.2.1 + 0)), (1, iV p1), (2, .ref (x.2.2.1 + 280))] [iV g, iV 0, .ref (x.2.2.1 + 280)] ν := by
    intro ν g hg hq
    refine x_i2l hg dL_led_7 ?_
    refine x_last ly280 (by decide) (by decide) ⟨by decide, by decide⟩ hg.il (by decide) (by decide) dL_led_8 (fun ω e1 n1 => ?_)
    refine x_goto (tgt := 15) dL_led_9 (by decide) ?_
    refine x_iconst dL_led_15 ?_
    exact lled_ret (hq ω e1 n1) ⟨by decide, by decide⟩ dL_led_16
  have main : xG x (lledY x) (0, 0) (lledF x Q) 0 [(0, .ref (x.2.2.1 + 0)), (1, iV p1), (2, .ref (x.2.2.1 + 280))] [] μ := by
    refine x_aload_n 2 rfl dL_led_0 ?_
    refine x_iconst dL_led_1 ?_
    refine x_aload_n 0 rfl dL_led_2 ?_
    refine x_iload_n 1 rfl dL_led_3 ?_
    intro p e s m args below meth c H locs ls hC hcs hR hS hlv
    obtain ⟨hx, hb, hr, hml, hown, hts, hlk, hU, hφ⟩ := hC
    have ha := xWs_at (D := x.2.1) (b := x.2.2.1) (μ := μ) (show 0 < 281 by decide)
    rw [xE_obj ly0] at ha
    have cb : CallB rmB s args RL 7 yX10_led cX10_led 3 (some .int) (Cond.code yX10_led cX10_led 3 (some .int) :: xTb) rmA 1 6 1 :=
      callB_of 1 hts (xTb_good cod_X10_led) rfl rfl rfl (hts _ ini_X10) (hts _ ml_L_7) ⟨by decide +kernel, by decide +kernel, by decide +kernel⟩ ⟨by decide, by decide⟩
    have run := vx_runV (C := RX10) (b := x.2.2.1 + 0) (As := [iV p1]) (rest := [iV 0, .ref (x.2.2.1 + 280)]) (g := F0 m 4 ls [iV p1, .ref (x.2.2.1 + 0), iV 0, .ref (x.2.2.1 + 280)]) (locs := locs) (cells := 0) (slots := 0) (below := below) (e := e) (meth := meth) ⟨hx, hb, hml, hown, hts⟩ (xled1 x p1 μ (fun g ν => xIn g → ∀ ω : xM, ω = wi ν 280 0 g → xRan ω → Q 0 ω) (fun ν => Q 1 ν) hp hl h1) ⟨cb, hts _ ins_X10_led, hts _ sel_X10_led⟩ ⟨xPn_blind _ _ _, va_recv hU.1 hR.1 (show vwCl[10]? = some (RX10, TX10, 19) from rfl) ha, fun U hUh hW => ⟨rfl, by rw [hUh]; exact hR, xU_moved hU hS hUh hW, xN_moved hφ.1 hS hUh hW⟩⟩ rfl rfl (by rw [← hml]; exact hlv.1.trans hml.symm) rfl (lv_room (Nat.le_of_ble_eq_true rfl)) dL_led_4 ⟨by decide, by decide⟩
    refine vx_calli run hS (fun _ _ h => h) (fun _ h => h) (fun _ _ h => h) (fun E ce q9 u t H1 locs1 ht hvm hpx hBX hsz hold hS1 hcell hv hcl => ?_) (fun r u t H1 locs1 ht hvm hw hB _ _ hS1 => ?_)
    · obtain ⟨rfl, hB⟩ := hBX
      have hR1 : xR x u H1 := by rw [← ht]; exact hB
      have hcast : (Cond.castable "java/util/NoSuchElementException" "java/util/NoSuchElementException").before args s = true := xN_words hφ.1 hts _ (by decide +kernel)
      refine vx_catch hown [] ⟨0, 9, 12, 13⟩ [] hφ.2 (fun z hz => by cases hz) (by decide) (by decide) (hts _ cl13) hcast hcell hv hcl ?_
      exact catch1 u q9 hpx p e s m args below meth c H1 locs1 ls ⟨hx, hb, hr, hml, hown, hts, hlk, hU, hφ⟩ ⟨Nat.le_of_ble_eq_true rfl, Nat.le_of_ble_eq_true rfl⟩ hR1 hS1 hlv
    · obtain ⟨v, rfl, hv, hq⟩ := hw
      have hR1 : xR x u H1 := by rw [← ht]; exact hB
      exact norm1 u v hv (hq hv) p e s m args below meth c H1 locs1 ls ⟨hx, hb, hr, hml, hown, hts, hlk, hU, hφ⟩ ⟨Nat.le_of_ble_eq_true rfl, Nat.le_of_ble_eq_true rfl⟩ hR1 hS1 hlv
  refine va_MetW (cc := cL_led) (maxL := 4) (ret := some .int) (hh := [(0, 9, 12, 13)]) (by decide +kernel) rfl ?_
  intro p e s m args below meth c s₁ B hml hv
  obtain ⟨rfl, hR, hU, hN⟩ := hv
  have hts := atoms_spec (ws := Cond.codeWith yL_led cL_led 4 (some .int) [(0, 9, 12, 13)] :: xTb) B.pre
  have htab := vx_table (x := yL_led) B (hts _ List.mem_cons_self)
  rw [lg_entry_eq]
  exact main p e s m _ below meth c s.heap [] _ ⟨B.exec, B.bytes, B.returns, hml, findClass_of_methodNamed B.named, fun w hw => hts w (List.mem_cons_of_mem _ hw), B.notSynchronized, hU, hN, htab⟩ ⟨Nat.zero_le _, Nat.zero_le _⟩ hR va_S.rf (lv_entry [.ref (x.2.2.1 + 0), iV p1, .ref (x.2.2.1 + 280)] (Nat.le_of_ble_eq_true rfl))
