theorem zq_marks (x : xX) (E : Nat → va_E) (H : Heap) (h : va_at x.2.1 vwCl (x.2.2.1 + 253, zeL x E 253) H) : va_at x.2.1 vwCl (x.2.2.1 + 253, xE x.2.1 x.2.2.1 mu0 253) H := by
  have h : H[x.2.2.1 + 253]? = some (vp_cell (x.2.1.1 103) (3, .inr (.inr (.inr (.inr (va_up (va_up (va_up (fun _ => none) (Int.toNat 0) (some (x.2.2.1 + 254))) (Int.toNat 1) (some (x.2.2.1 + 256))) (Int.toNat 2) (some (x.2.2.1 + 258)))))))) := h
  show H[x.2.2.1 + 253]? = some (vp_cell (x.2.1.1 103) (3, .inr (.inr (.inr (.inr (fun j => some (x.2.2.1 + (254 + 2 * j))))))))
  rw [h, vp_cell_q, vp_cell_q]
  refine congrArg some (arrV_alike (fun j hj => ?_))
  rcases (show j = 0 ∨ j = 1 ∨ j = 2 by omega) with rfl | rfl | rfl <;> rfl
theorem start_P {x : xX} {E : Nat → va_E} {H : Heap} (h : yR x 281 (zeL x E) H) : va_P x.2.1 vwCl (xWs x.2.1 x.2.2.1 mu0) H := by
  intro k q hk
  obtain ⟨rfl, hk2⟩ := xWs_of hk
  have h1 := h.1 k hk2
  by_cases q : k = 253
  · subst q
    exact zq_marks x E H h1
  · rw [zq_all x E k hk2 q] at h1
    exact h1
theorem mu0_rng (k j : Nat) : -1 ≤ mu0 k j ∧ mu0 k j ≤ 244 := by
  unfold mu0
  generalize (Nat.beq k 29 || Nat.beq k 67) = a
  generalize (Nat.beq k 250 || (Nat.beq k 252 || (Nat.beq k 255 || (Nat.beq k 257 || Nat.beq k 259)))) = b
  generalize Nat.beq k 236 = c
  generalize Nat.beq j 5 = d
  generalize Nat.beq j 6 = e
  generalize Nat.beq k 260 = f
  generalize Nat.beq j 10 = g
  revert a b c d e f g
  decide
theorem mu0_ran : xRan mu0 := fun k j => ⟨fun _ => ⟨by have := mu0_rng k j; omega, by have := mu0_rng k j; omega⟩, ⟨by have := mu0_rng k j; omega, by have := mu0_rng k j; omega⟩⟩
theorem mu0_Inv : Inv mu0 := Inv_start ⟨rfl, rfl⟩ ⟨rfl, rfl, rfl, rfl, rfl⟩ ⟨rfl, rfl⟩ (fun _ _ => rfl) (fun _ _ => rfl) ⟨rfl, rfl⟩ (fun _ _ => rfl) (fun _ _ => ⟨rfl, rfl⟩) ⟨rfl, rfl⟩ (fun _ _ => rfl)
abbrev yL (bS L : Nat) (xs : Nat → Int32) (x : xX) : yY := (room_1, RL, cL_law, 7, some .boolean, fun s _ => va_X bS L xs s s.heap ∧ bS < s.heap.size ∧ ¬ xA x.2.2.1 bS ∧ s.heap.size ≤ x.2.2.1 ∧ xN x s)
set_option maxRecDepth 100000 in
set_option maxHeartbeats 8000000 in
theorem law_start (x : xX) (hst : x.1.stackTraces = false) (bS L : Nat) (xs : Nat → Int32) (hL : L ≤ 3072) (E : Nat → va_E) : yGr x (yL bS L xs x) (0, 0) (lF bS) (yR x 0 E) 0 [(0, .ref bS)] [] := by
  refine y_new (K := 0) (K2 := 1) (cs2 := (1, 19)) (ci := 10) (fs := [.null, .null, .null, .null, .null, .null, .null, .null, .null, .null, .null, .null, .null, .null, .null, .null, .null, iV 0, iV 0]) rfl inT10 tyX10 tyX10_ok zk_L_8 zi_10 zn_10 zf_10 ⟨Nat.le_of_ble_eq_true rfl, Nat.le_of_ble_eq_true rfl⟩ rfl rfl dL_law_0 ?_
  refine y_dup rfl dL_law_3 ?_
  refine y_call (cs2 := (260, 52229)) (As := []) zc_10 rfl zm_10 (zt_10_0 x _ rfl) rfl zl_L_15 ⟨Nat.le_of_ble_eq_true rfl, Nat.le_of_ble_eq_true rfl⟩ ⟨Nat.le_of_ble_eq_true rfl, Nat.le_of_ble_eq_true rfl⟩ (Nat.le_of_ble_eq_true rfl) rfl dL_law_4 ?_
  refine y_astore_n [(1, .ref (x.2.2.1 + 0)), (0, .ref bS)] dL_law_7 (Nat.le_of_ble_eq_true rfl) rfl ?_
  refine y_new (K := 260) (K2 := 261) (cs2 := (261, 52267)) (ci := 11) (fs := [iV 0, .null, iV 0, iV 0, iV 0, iV 0, iV 0, iV 0, iV 0, iV 0, iV 0, iV 0, .null, iV 0, iV 0, .null, .null, .null, .null, iV 0, .null, .null, .null, .null, .null, .null, .null, .null, .null, iV 0, iV 0, iV 0, iV 0, iV 0, .null, .null, .null, .null]) rfl inT11 tyX11 tyX11_ok zk_L_16 zi_11 zn_11 zf_11 ⟨Nat.le_of_ble_eq_true rfl, Nat.le_of_ble_eq_true rfl⟩ rfl rfl dL_law_8 ?_
  refine y_dup rfl dL_law_11 ?_
  refine y_call (cs2 := (280, 288973)) (As := []) zc_11 rfl zm_11 (zt_11_260 x _ rfl) rfl zl_L_18 ⟨Nat.le_of_ble_eq_true rfl, Nat.le_of_ble_eq_true rfl⟩ ⟨Nat.le_of_ble_eq_true rfl, Nat.le_of_ble_eq_true rfl⟩ (Nat.le_of_ble_eq_true rfl) rfl dL_law_12 ?_
  refine y_astore_n [(2, .ref (x.2.2.1 + 260)), (1, .ref (x.2.2.1 + 0)), (0, .ref bS)] dL_law_15 (Nat.le_of_ble_eq_true rfl) rfl ?_
  refine y_iconst dL_law_16 ?_
  refine y_newJ (K := 280) (K2 := 281) (cs2 := (281, 288974)) 1 za_long (by decide) (by decide) (by decide) ⟨Nat.le_of_ble_eq_true rfl, Nat.le_of_ble_eq_true rfl⟩ rfl rfl dL_law_17 ?_
  refine y_astore_n [(3, .ref (x.2.2.1 + 280)), (2, .ref (x.2.2.1 + 260)), (1, .ref (x.2.2.1 + 0)), (0, .ref bS)] dL_law_19 (Nat.le_of_ble_eq_true rfl) rfl ?_
  refine y_iconst dL_law_20 ?_
  refine y_istore [(4, iV 0), (3, .ref (x.2.2.1 + 280)), (2, .ref (x.2.2.1 + 260)), (1, .ref (x.2.2.1 + 0)), (0, .ref bS)] dL_law_21 (Nat.le_of_ble_eq_true rfl) rfl ?_
  refine y_sub [4, 3, 2, 1, 0] rfl ?_
  intro p e s m args below meth c H locs ls hC hcs hR hS hl
  obtain ⟨hx, hb, hr, hml, hown, hts, hlk, hU, hAO, hφ⟩ := hC
  have hR1 : yR x 281 (zeL x E) H := hR
  exact xlaw_loop x hst bS L xs hL Inv (fun i μ h _ _ _ => tlaw_Inv h) (fun cs i μ => xlaw_exit x bS L xs cs i μ) 520 0 (281, 288974) mu0 (by omega) (by omega) (by omega) (Nat.le_of_ble_eq_true rfl) (Nat.le_of_ble_eq_true rfl) mu0_Inv p e s m args below meth c H locs ls ⟨hx, hb, hr, hml, hown, hts, hlk, hU, hφ⟩ hcs ⟨start_P hR1, mu0_ran⟩ hS hl
/-! THE START: what the Statement gives -/
def xSId : List Nat := [86, 115, 129, 133, 138, 143, 144, 95, 157, 163, 100, 105, 110]
def xSIm : List Nat := [177, 206, 212, 214, 216, 218, 220, 186, 229, 231, 191, 196, 201]
abbrev xFl : List Cond := flatC (Jvm.Cond.and given_1 narrow_1)
abbrev xTm (i : Nat) : Term := .string RX5 (xSId.getD i 0)
abbrev xTv (i : Nat) : Term := .field (xTm i) "java/lang/String" "value" "[B"
set_option maxRecDepth 100000 in
theorem fl_ex : ∀ i, i < 13 → Cond.exactly (xTm i) "java/lang/String" ∈ xFl := by decide +kernel
set_option maxRecDepth 100000 in
theorem fl_co : ∀ i, i < 13 → Cond.eq (.field (xTm i) "java/lang/String" "coder" "B") (.int 0) ∈ xFl := by decide +kernel
set_option maxRecDepth 100000 in
theorem fl_ar : ∀ i, i < 13 → Cond.arrayOf (xTv i) .byte ∈ xFl := by decide +kernel
set_option maxRecDepth 100000 in
theorem fl_le : ∀ i, i < 13 → Cond.eq (.length (xTv i)) (.int (Int32.ofNat (xSLen.getD i 0))) ∈ xFl := by decide +kernel
set_option maxRecDepth 100000 in
theorem fl_el : ∀ i, i < 13 → ∀ j, j < xSLen.getD i 0 → Cond.eq (.elem (xTv i) (.int (Int32.ofNat j))) (.int ((xSByt.getD i []).getD j 0)) ∈ xFl := by decide +kernel
set_option maxRecDepth 100000 in
theorem fl_on : ∀ i, i < 13 → Cond.eq (xTm i) (.string RX11 (xSIm.getD i 0)) ∈ xFl := by decide +kernel
theorem len31 : ∀ i, i < 13 → xSLen.getD i 0 < 2 ^ 31 := by decide +kernel
set_option maxRecDepth 100000 in
theorem str_apart : ∀ i, i < 13 → ∀ j, j < 13 → Int32.ofNat (xSLen.getD i 0) = Int32.ofNat (xSLen.getD j 0) → (∀ q, q < 3 → (xSByt.getD i []).getD q 0 = (xSByt.getD j []).getD q 0) → i = j := by decide +kernel
theorem len3 : ∀ i, i < 13 → 3 ≤ xSLen.getD i 0 := by decide +kernel
theorem va_T_alike {t : Nat} {i j : Nat} {A : Nat → Prop} {s : State} {H : Heap} (hi : i < 13) (hj : j < 13) (h1 : va_T .byte t (xSLen.getD i 0) (fun q => .int ((xSByt.getD i []).getD q 0)) A s H) (h2 : va_T .byte t (xSLen.getD j 0) (fun q => .int ((xSByt.getD j []).getD q 0)) A s H) : i = j := by
  obtain ⟨c1, a1, -, -, b1, d1, e1, -⟩ := h1
  obtain ⟨c2, a2, -, -, b2, d2, e2, -⟩ := h2
  cases Option.some.inj (a1.symm.trans a2)
  have key : ∀ q, q < xSLen.getD i 0 → q < xSLen.getD j 0 → (xSByt.getD i []).getD q 0 = (xSByt.getD j []).getD q 0 := fun q h3 h4 => by
    have := Option.some.inj ((e1 q h3).symm.trans (e2 q h4))
    exact Value.int.inj this
  exact str_apart i hi j hj (d1.symm.trans d2) (fun q hq => key q (by have := len3 i hi; omega) (by have := len3 j hj; omega))
theorem va_OF_alike {o n d : String} {v w : Value} {t : Nat} {A : Nat → Prop} {s : State} {H : Heap} (h1 : va_OF o n d v t A s H) (h2 : va_OF o n d w t A s H) : v = w := by
  obtain ⟨c1, k1, i1, f1, cell1, a1, -, b1, -, d1, -⟩ := h1
  obtain ⟨c2, k2, i2, f2, cell2, a2, -, b2, -, d2, -⟩ := h2
  have ef := Option.some.inj (a1.symm.trans a2)
  simp only [Prod.mk.injEq] at ef
  obtain ⟨-, -, -, rfl⟩ := ef
  cases Option.some.inj (b1.symm.trans b2)
  exact Option.some.inj (d1.symm.trans d2)
theorem start_strs {s : State} {args : Array Value} {A : Nat → Prop} (hf : ∀ w ∈ xFl, w.before args s = true) (hA : ∀ a : Nat, a < s.heap.size → ¬ A a) : ∃ adK adV : Nat → Nat, vk_S 13 xSLen xSByt adK adV A s s.heap ∧ ∀ i : Nat, i < 13 → (xTm i).eval args s none [] s = some (.ref (adK i)) := by
  have h0 : ∀ i : Nat, ∃ q : Nat × Nat, i < 13 → (xTm i).eval args s none [] s = some (.ref q.1) ∧ va_O "java/lang/String" q.1 A s s.heap ∧ va_OF "java/lang/String" "coder" "B" (.int 0) q.1 A s s.heap ∧ va_OF "java/lang/String" "value" "[B" (.ref q.2) q.1 A s s.heap ∧ va_T .byte q.2 (xSLen.getD i 0) (fun j => .int ((xSByt.getD i []).getD j 0)) A s s.heap := by
    intro i
    by_cases hi : i < 13
    · obtain ⟨aK, aV, h1, h2⟩ := vk_Sof (args := args) (s := s) (N := 1) (tm := fun _ => xTm i) (len := [xSLen.getD i 0]) (byt := [xSByt.getD i []]) (A := A)
        (fun j hj => by rw [show j = 0 by omega]; exact len31 i hi) (fun j _ => hf _ (fl_ex i hi)) (fun j _ => hf _ (fl_co i hi)) (fun j _ => hf _ (fl_ar i hi))
        (fun j hj => by rw [show j = 0 by omega]; exact hf _ (fl_le i hi)) (fun j hj q hq => by rw [show j = 0 by omega] at hq ⊢; exact hf _ (fl_el i hi q hq)) (fun a b ha hb hn => absurd (show a = b by omega) hn) hA
      obtain ⟨g1, g2, g3, g4⟩ := h1.1 0 (by omega)
      exact ⟨(aK 0, aV 0), fun _ => ⟨h2 0 (by omega), g1, g2, g3, g4⟩⟩
    · exact ⟨(0, 0), fun h => absurd h hi⟩
  obtain ⟨ad, had⟩ := Classical.axiomOfChoice h0
  refine ⟨fun i => (ad i).1, fun i => (ad i).2, ⟨fun i hi => (had i hi).2, fun i j hi hj e => ?_⟩, fun i hi => (had i hi).1⟩
  have e : (ad i).1 = (ad j).1 := e
  obtain ⟨-, -, -, v1, t1⟩ := had i hi
  obtain ⟨-, -, -, v2, t2⟩ := had j hj
  rw [e] at v1
  have ev : (ad i).2 = (ad j).2 := Value.ref.inj (va_OF_alike v1 v2)
  rw [ev] at t1
  exact va_T_alike hi hj t1 t2
set_option maxRecDepth 100000 in
theorem fl_sr : ∀ q ∈ xSTab, Cond.stringRef q.1 q.2.1 q.2.2.1 ∈ lw_tbl := by decide +kernel
set_option maxRecDepth 100000 in
theorem xSTab_tm : ∀ q ∈ xSTab, q.2.2.2 < 13 ∧ (Term.string q.1 q.2.1 = xTm q.2.2.2 ∨ Term.string q.1 q.2.1 = .string RX11 (xSIm.getD q.2.2.2 0)) := by decide +kernel
theorem zi_all {s : State} {args : Array Value} (hts : ∀ w ∈ xTb, w.before args s = true) : ∃ (dC : Nat → ClassId) (dI : Nat → Nat → Nat), ∀ (k : Nat) (q : vw_C), vwCl[k]? = some q → u_Kn s q.1 q.2.1 q.2.2 (dC k) (dI k) := by
  have h0 : ∀ k : Nat, ∃ z : ClassId × (Nat → Nat), ∀ q : vw_C, vwCl[k]? = some q → u_Kn s q.1 q.2.1 q.2.2 z.1 z.2 := by
    intro k
    match k with
    | 0 =>
      obtain ⟨c, iS, h⟩ := u_known (C := RX0) (T := TX0) (N := 6) (n := 6) hts inT0 (hts _ zi_0)
      exact ⟨(c, iS), fun q hq => by cases hq; exact h⟩
    | 1 =>
      obtain ⟨c, iS, h⟩ := u_known (C := RX1) (T := TX1) (N := 11) (n := 11) hts inT1 (hts _ zi_1)
      exact ⟨(c, iS), fun q hq => by cases hq; exact h⟩
    | 2 =>
      obtain ⟨c, iS, h⟩ := u_known (C := RX2) (T := TX2) (N := 15) (n := 15) hts inT2 (hts _ zi_2)
      exact ⟨(c, iS), fun q hq => by cases hq; exact h⟩
    | 3 =>
      obtain ⟨c, iS, h⟩ := u_known (C := RX3) (T := TX3) (N := 4) (n := 4) hts inT3 (hts _ zi_3)
      exact ⟨(c, iS), fun q hq => by cases hq; exact h⟩
    | 4 =>
      obtain ⟨c, iS, h⟩ := u_known (C := RX4) (T := TX4) (N := 4) (n := 4) hts inT4 (hts _ zi_4)
      exact ⟨(c, iS), fun q hq => by cases hq; exact h⟩
    | 5 =>
      obtain ⟨c, iS, h⟩ := u_known (C := RX5) (T := TX5) (N := 14) (n := 14) hts inT5 (hts _ zi_5)
      exact ⟨(c, iS), fun q hq => by cases hq; exact h⟩
    | 6 =>
      obtain ⟨c, iS, h⟩ := u_known (C := RX6) (T := TX6) (N := 3) (n := 3) hts inT6 (hts _ zi_6)
      exact ⟨(c, iS), fun q hq => by cases hq; exact h⟩
    | 7 =>
      obtain ⟨c, iS, h⟩ := u_known (C := RX7) (T := TX7) (N := 13) (n := 13) hts inT7 (hts _ zi_7)
      exact ⟨(c, iS), fun q hq => by cases hq; exact h⟩
    | 8 =>
      obtain ⟨c, iS, h⟩ := u_known (C := RX8) (T := TX8) (N := 3) (n := 3) hts inT8 (hts _ zi_8)
      exact ⟨(c, iS), fun q hq => by cases hq; exact h⟩
    | 9 =>
      obtain ⟨c, iS, h⟩ := u_known (C := RX9) (T := TX9) (N := 18) (n := 18) hts inT9 (hts _ zi_9)
      exact ⟨(c, iS), fun q hq => by cases hq; exact h⟩
    | 10 =>
      obtain ⟨c, iS, h⟩ := u_known (C := RX10) (T := TX10) (N := 19) (n := 19) hts inT10 (hts _ zi_10)
      exact ⟨(c, iS), fun q hq => by cases hq; exact h⟩
    | 11 =>
      obtain ⟨c, iS, h⟩ := u_known (C := RX11) (T := TX11) (N := 38) (n := 38) hts inT11 (hts _ zi_11)
      exact ⟨(c, iS), fun q hq => by cases hq; exact h⟩
    | k + 12 => exact ⟨(0, fun _ => 0), fun q hq => by simp [vwCl] at hq⟩
  obtain ⟨f, hf⟩ := Classical.axiomOfChoice h0
  exact ⟨fun k => (f k).1, fun k => (f k).2, fun k q hq => hf k q hq⟩
theorem vwCl_lt {k : Nat} {q : vw_C} (h : vwCl[k]? = some q) : k < 12 := (List.getElem?_eq_some_iff.mp h).1
def xD1 (dC : Nat → ClassId) (c0 c1 c2 c3 c4 : ClassId) : Nat → ClassId := fun k => if k = 100 then c0 else if k = 101 then c1 else if k = 102 then c2 else if k = 103 then c3 else if k = 104 then c4 else dC k
set_option maxRecDepth 100000 in
theorem ao_A : Cond.arrayOver (.array .int) ∈ lw_tbl := by decide +kernel
set_option maxRecDepth 100000 in
theorem ao_O : Cond.arrayOver (.object RX4) ∈ lw_tbl := by decide +kernel
theorem zi_ac {s : State} {args : Array Value} {t : FieldType} (h : (Cond.arrayClass t).before args s = true) : ∃ c : ClassId, ArrOfT s c t ∧ s.vm.findClass ("[" ++ t.toString) = some c := by
  obtain ⟨c, k, comp, h1, h2, h3⟩ := Cond.arrayClass_spec h
  exact ⟨c, fun n z => ⟨fun k h => (by cases h), k, h2, comp, h3⟩, h1⟩
theorem start_K {s : State} {args : Array Value} (hts : ∀ w ∈ lw_tbl, w.before args s = true) : ∃ D : va_G, va_K D vwCl (xTy D) s := by
  have htx : ∀ w ∈ xTb, w.before args s = true := fun w hw => hts w (List.mem_filter.mp hw).1
  obtain ⟨dC, dI, hK⟩ := zi_all htx
  obtain ⟨c0, a0, n0⟩ := zi_ac (htx _ za_int)
  obtain ⟨c1, a1, n1⟩ := zi_ac (htx _ za_boolean)
  obtain ⟨c2, a2, n2⟩ := zi_ac (htx _ za_long)
  obtain ⟨comp3, c3, k3, p1, p2, p3, p4, p5⟩ := Cond.arrayOver_spec (hts _ ao_O)
  obtain ⟨comp4, c4, k4, q1, q2, q3, q4⟩ := Cond.arrayOver_specA (hts _ ao_A)
  refine ⟨(xD1 dC c0 c1 c2 c3 c4, dI), fun k q hq => ?_, fun k q hq => ?_⟩
  · have hk := vwCl_lt hq
    have e : xD1 dC c0 c1 c2 c3 c4 k = dC k := by
      unfold xD1
      rw [if_neg (by omega), if_neg (by omega), if_neg (by omega), if_neg (by omega), if_neg (by omega)]
    show u_Kn s q.1 q.2.1 q.2.2 (xD1 dC c0 c1 c2 c3 c4 k) (dI k)
    rw [e]
    exact hK k q hq
  · match k, hq with
    | 0, hq => cases hq; exact ⟨a0, n0⟩
    | 1, hq => cases hq; exact ⟨a1, n1⟩
    | 2, hq => cases hq; exact ⟨a2, n2⟩
    | 3, hq => cases hq; exact ⟨fun n z => ⟨fun k h => (by cases h), k3, p3, comp3, p4⟩, k3, comp3, p3, p4, p1, p5⟩
    | 4, hq => cases hq; exact ⟨fun n z => ⟨fun k h => (by cases h), k4, q2, comp4, q3⟩, q4⟩
    | k + 5, hq => simp [xTy] at hq
set_option maxRecDepth 100000 in
theorem sl_cs : Cond.laysStatic "java/lang/String" "COMPACT_STRINGS" "Z" ∈ lw_tbl ∧ Cond.initialized "java/lang/String" ∈ lw_tbl ∧ Cond.laysStatic "jdk/internal/util/Preconditions" "SIOOBE_FORMATTER" "Ljava/util/function/BiFunction;" ∈ lw_tbl ∧ Cond.initialized "jdk/internal/util/Preconditions" ∈ lw_tbl := by decide +kernel
set_option maxRecDepth 100000 in
theorem sl_th : Cond.laysStatic Bundle.tN "UNASSIGNED_STACK" Bundle.steD ∈ lw_tbl ∧ Cond.laysStatic Bundle.tN "SUPPRESSED_SENTINEL" Bundle.listD ∈ lw_tbl ∧ Cond.initialized Bundle.tN ∈ lw_tbl := by decide +kernel
set_option maxRecDepth 100000 in
theorem fl_st : Cond.eq (.static "java/lang/String" "COMPACT_STRINGS" "Z") (.int 1) ∈ xFl ∧ Cond.isRef (.static "jdk/internal/util/Preconditions" "SIOOBE_FORMATTER" "Ljava/util/function/BiFunction;") ∈ xFl ∧ Cond.isRef (.static Bundle.tN "UNASSIGNED_STACK" Bundle.steD) ∈ xFl ∧ Cond.isRef (.static Bundle.tN "SUPPRESSED_SENTINEL" Bundle.listD) ∈ xFl := by decide +kernel
/-- from the entry, for every script of at most 3072 ints, the law comes to its end with true -/
theorem whole_start {p : Program} {e : Env} {s : State} {m : MethodId} {below : List Frame} {meth : Method} {c : Code} (l : Launch) (hst : l.stackTraces = false) {b L : Nat} {xs : Nat → Int32} (hL : L ≤ 3072) (C0 : lw_At p s m meth c b L xs) : W p l e room_1 s m #[Value.ref b] below meth c s.heap [] 0 0 (lw_Z below #[Value.ref b] s) (entryFrame m ([Value.ref b] : List Value).toArray 7) := by
  obtain ⟨hx, hb, hr, hml, hown, hts, hX, hbl, hlocks, hgv⟩ := C0
  have hf : ∀ w ∈ xFl, w.before #[Value.ref b] s = true := flat_of_before _ hgv
  have hA : ∀ a : Nat, a < s.heap.size → ¬ xA s.heap.size a := fun a h => Nat.not_le.mpr h
  obtain ⟨D, hK⟩ := start_K hts
  obtain ⟨adK, adV, hV, hT⟩ := start_strs (A := xA s.heap.size) hf hA
  have hU : xU (l, D, s.heap.size, (adK, adV)) s := by
    refine ⟨hK, fun q hq => ?_, hV, va_Zof (hts _ sl_cs.1) (hts _ sl_cs.2.1) (va_eqt (hf _ fl_st.1)) hA, va_Zqof (hts _ sl_cs.2.2.1) (hts _ sl_cs.2.2.2) (hf _ fl_st.2.1) hA⟩
    obtain ⟨h1, h2⟩ := xSTab_tm q hq
    refine vk_R.of (hts _ (fl_sr q hq)) ?_
    rcases h2 with h2 | h2
    · rw [h2]
      exact hT _ h1
    · rw [h2]
      exact va_eqR (hf _ (fl_on _ h1)) (hT _ h1)
  have hN : xN (l, D, s.heap.size, (adK, adV)) s := ⟨fun w hw => va_Nw.of (leB_on w hw) (hts w (leAt_in w (List.mem_filter.mp hw).1)), vx_Zqof (hts _ sl_th.1) (hts _ sl_th.2.2) (hf _ fl_st.2.2.1) hA, vx_Zqof (hts _ sl_th.2.1) (hts _ sl_th.2.2) (hf _ fl_st.2.2.2) hA⟩
  have hl := lv_entry ([.ref b]) (n := 7) (Nat.le_of_ble_eq_true rfl)
  rw [lg_entry_eq]
  refine law_start (l, D, s.heap.size, (adK, adV)) hst b L xs hL (fun _ => .inr (0, [])) p e s m #[Value.ref b] below meth c s.heap [] _ ⟨hx, hb, hr, hml, hown, fun w hw => hts w (List.mem_filter.mp hw).1, hlocks, hU, ⟨va_AO.of (hts _ ao_O), hts _ ao_A⟩, hX, hbl, Nat.not_le.mpr hbl, Nat.le_refl _, hN⟩ ⟨Nat.zero_le _, Nat.zero_le _⟩ ⟨fun k hk => absurd hk (Nat.not_lt_zero k), rfl⟩ va_S.rf hl
