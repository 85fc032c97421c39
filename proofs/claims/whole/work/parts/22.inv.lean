/-! THE INVARIANT between the class (cells 0 .. 259) and the reference (cells 260 .. 279) -/
def iTape (μ : xM) : Prop := μ 35 0 = μ 260 2 ∧ 0 ≤ μ 260 2 ∧ μ 260 2 ≤ 900 ∧ ∀ i : Nat, (i : Int) < μ 260 2 → μ 36 i = μ 261 i ∧ 0 ≤ μ 261 i ∧ μ 261 i ≤ 255
def iErr (μ : xM) : Prop := μ 35 1 = μ 260 9 ∧ μ 0 18 = μ 260 11 ∧ (μ 260 11 = 4 → μ 35 2 = μ 260 10)
def iHouse (μ : xM) : Prop := (∀ j : Nat, j < 7 → μ 39 j = μ 263 j)
  ∧ (∀ w : Nat, w < 24 → (w : Int) < μ 263 3 → μ 40 w = μ 263 (7 + w) ∧ μ 41 w = μ 263 (175 + w) ∧ μ 68 w = μ 263 (199 + w) ∧ ∀ i : Nat, i < 6 → μ (43 + w) i = if (i : Int) < μ 263 (7 + w) then μ 263 (31 + 6 * w + i) - 97 else -1)
  ∧ (∀ i : Nat, i < 6 → μ 67 i = -1)
  ∧ (∀ g : Nat, (g : Int) < μ 263 4 → μ 69 g = μ 263 (295 + g))
  ∧ (∀ i : Nat, (i : Int) < μ 263 5 → μ 70 i = μ 263 (303 + i) ∧ μ 71 i = μ 263 (309 + i))
  ∧ (∀ i : Nat, (i : Int) < μ 263 6 → μ 72 i = μ 263 (315 + i))
/-- letters counted: of the first n guests; of the first n letters of a word; of what a table is -/
def cntG (R : Nat → Int) : Nat → Int → Int
  | 0, _ => 0
  | n + 1, c => cntG R n c + if R (295 + n) = c then 1 else 0
def cntL (R : Nat → Int) (w : Nat) : Nat → Int → Int
  | 0, _ => 0
  | n + 1, c => cntL R w n c + if R (31 + 6 * w + n) - 97 = c then 1 else 0
def cntW (R : Nat → Int) (w : Nat) (c : Int) : Int := if w = 24 then 0 else cntL R w (R (7 + w)).toNat c
def thereF (R : Nat → Int) (a b c n : Nat) : Prop := ∀ x : Int, 0 ≤ x → x < 26 → cntW R a x + cntW R b x + cntW R c x ≤ cntG R n x
def pw (n : Int) : Int := (2 : Int) ^ n.toNat
/-- a Night of the class (cell o) and one of the reference (from place m of cell c on) -/
def iNight (μ : xM) (o c m : Nat) : Prop := (∀ t : Nat, t < 3 → μ (o + 1) t = μ c (m + t) ∧ 0 ≤ μ c (m + t) ∧ μ c (m + t) ≤ 24 ∧ (μ c (m + t) = 24 ∨ goodF (μ 263) (μ c (m + t)).toNat) ∧ (μ 263 0 ≤ t → μ c (m + t) = 24))
  ∧ (μ o 0 = μ c (m + 3) ∧ 0 ≤ μ o 0 ∧ μ o 0 ≤ 3) ∧ (μ o 1 = μ c (m + 4) ∧ 0 ≤ μ o 1 ∧ μ o 1 ≤ μ 263 4)
  ∧ (0 ≤ μ o 2 ∧ μ o 2 < pw (μ o 1) ∧ μ c (m + 5) = pw (μ o 1) - 1 - μ o 2)
  ∧ thereF (μ 263) (μ c m).toNat (μ c (m + 1)).toNat (μ c (m + 2)).toNat (μ o 1).toNat
def iNights (μ : xM) : Prop := iNight μ 249 265 0 ∧ μ 0 17 = μ 260 19 ∧ 0 ≤ μ 260 19 ∧ μ 260 19 ≤ 3 ∧ ∀ i : Nat, i < 3 → (i : Int) < μ 260 19 → iNight μ (254 + 2 * i) 266 (6 * i)
/-- what the growth rows say -/
def iGrow (μ : xM) : Prop := (∀ w v : Nat, w < 25 → v < 24 → (w = 24 ∨ (w : Int) < μ 263 3) → (v : Int) < μ 263 3 → μ (75 + w) v = wvF (μ 263) w v)
  ∧ (∀ w v : Nat, w < 25 → v < 24 → μ 267 (24 * w + v) = byF (μ 263) w v ∧ μ (101 + w) v = byF (μ 263) w v)
  ∧ (∀ w : Nat, w < 25 → μ 178 w = (upsF (μ 263) w).length ∧ ∀ i : Nat, (h : i < (upsF (μ 263) w).length) → μ (127 + w) i = (upsF (μ 263) w)[i] ∧ μ (153 + w) i = byF (μ 263) w (upsF (μ 263) w)[i])
  ∧ (∀ v : Nat, v < 24 → μ 204 v = (downsF (μ 263) v).length ∧ ∀ i : Nat, (h : i < (downsF (μ 263) v).length) → μ (180 + v) i = (downsF (μ 263) v)[i])
  ∧ (∀ w : Nat, (w : Int) < μ 263 3 → μ 205 w = μ 268 w ∧ μ 207 w = μ 270 w) ∧ (∀ w : Nat, (w : Int) < μ 263 3 ∨ w = 24 → μ 206 w = μ 269 w)
  ∧ isChain (μ 263) (μ 268) ∧ isNim (μ 263) (μ 269) ∧ isRise (μ 263) (μ 270)
def iShut (μ : xM) : Prop := μ 260 14 = 0 ∧ (∀ j : Nat, j < 7 → μ 39 j = 0 ∧ μ 263 j = 0) ∧ μ 249 0 = 0 ∧ μ 249 1 = 0 ∧ μ 0 17 = 0 ∧ μ 260 19 = 0 ∧ (∀ i : Nat, i < 6 → μ 67 i = -1)
def iOpen (μ : xM) : Prop := μ 260 14 = 1 ∧ okR (μ 263) ∧ iHouse μ ∧ iNights μ ∧ iGrow μ
/-! cells and places that a call which only reads may write: the class's and the reference's -/
def cscr (k j : Nat) : Bool := (k == 0 && j == 18) || (decide (1 ≤ k) && decide (k ≤ 34)) || (k == 35 && decide (7 ≤ j)) || k == 37 || k == 38 || (decide (209 ≤ k) && decide (k ≤ 248)) || k == 251 || k == 252
def rscr (k j : Nat) : Bool := (k == 260 && (j == 0 || (decide (3 ≤ j) && decide (j ≤ 8)) || j == 11 || j == 13 || (decide (29 ≤ j) && decide (j ≤ 33)))) || k == 262 || k == 264 || decide (271 ≤ k)
def csame (μ μ' : xM) : Prop := ∀ k j, cscr k j = false → μ' k j = μ k j
def rsame (μ μ' : xM) : Prop := ∀ k j, rscr k j = false → μ' k j = μ k j
/-- both, and the numbers of faults -/
def ascr (k j : Nat) : Bool := cscr k j || rscr k j || (k == 35 && (j == 1 || j == 2)) || (k == 260 && (j == 9 || j == 10))
def asame (μ μ' : xM) : Prop := ∀ k j, ascr k j = false → μ' k j = μ k j
theorem csame.rf (μ : xM) : csame μ μ := fun _ _ _ => rfl
theorem rsame.rf (μ : xM) : rsame μ μ := fun _ _ _ => rfl
theorem csame.tr {μ μ1 μ2 : xM} (h1 : csame μ μ1) (h2 : csame μ1 μ2) : csame μ μ2 := fun k j hn => (h2 k j hn).trans (h1 k j hn)
theorem rsame.tr {μ μ1 μ2 : xM} (h1 : rsame μ μ1) (h2 : rsame μ1 μ2) : rsame μ μ2 := fun k j hn => (h2 k j hn).trans (h1 k j hn)
theorem csame.w {μ μ1 : xM} {k j : Nat} {v : Int} (h1 : csame μ μ1) (h : cscr k j = true) : csame μ (wi μ1 k j v) := by
  intro a b hn
  unfold wi
  split
  · rename_i e
    rw [e.1, e.2, h] at hn
    exact absurd hn (by decide)
  · exact h1 a b hn
theorem rsame.w {μ μ1 : xM} {k j : Nat} {v : Int} (h1 : rsame μ μ1) (h : rscr k j = true) : rsame μ (wi μ1 k j v) := by
  intro a b hn
  unfold wi
  split
  · rename_i e
    rw [e.1, e.2, h] at hn
    exact absurd hn (by decide)
  · exact h1 a b hn
theorem csame.a {μ μ1 μ2 : xM} (h1 : csame μ μ1) (h2 : rsame μ1 μ2) : asame μ μ2 := by
  intro k j hn
  unfold ascr at hn
  simp only [Bool.or_eq_false_iff] at hn
  exact (h2 k j hn.1.1.2).trans (h1 k j hn.1.1.1)
theorem asame.w {μ : xM} {k j : Nat} {v : Int} (h : ascr k j = true) : asame μ (wi μ k j v) := by
  intro a b hn
  unfold wi
  split
  · rename_i e
    rw [e.1, e.2, h] at hn
    exact absurd hn (by decide)
  · rfl
theorem asame.tr {μ μ1 μ2 : xM} (h1 : asame μ μ1) (h2 : asame μ1 μ2) : asame μ μ2 := fun k j hn => (h2 k j hn).trans (h1 k j hn)
theorem asame.c {μ μ1 : xM} (h1 : csame μ μ1) : asame μ μ1 := h1.a (rsame.rf _)
theorem asame.r {μ μ1 : xM} (h1 : rsame μ μ1) : asame μ μ1 := (csame.rf _).a h1
theorem asame.row {μ μ' : xM} (h : asame μ μ') {k : Nat} (hk : (39 ≤ k ∧ k < 209) ∨ (249 ≤ k ∧ k < 251) ∨ (253 ≤ k ∧ k < 260) ∨ k = 36 ∨ k = 261 ∨ k = 263 ∨ (265 ≤ k ∧ k < 271)) : μ' k = μ k := by
  funext j
  refine h k j ?_
  have : k ≠ 0 ∧ ¬ k ≤ 34 ∧ k ≠ 35 ∧ k ≠ 37 ∧ k ≠ 38 ∧ ¬ (209 ≤ k ∧ k ≤ 248) ∧ k ≠ 251 ∧ k ≠ 252 ∧ k ≠ 260 ∧ k ≠ 262 ∧ k ≠ 264 ∧ ¬ 271 ≤ k := by omega
  obtain ⟨h1, h2, h3, h4, h5, h6, h7, h8, h9, h10, h11, h12⟩ := this
  simp only [ascr, cscr, rscr, Bool.or_eq_false_iff, Bool.and_eq_false_iff, beq_eq_false_iff_ne, decide_eq_false_iff_not]
  refine ⟨⟨⟨⟨⟨⟨⟨⟨⟨⟨?_, ?_⟩, ?_⟩, ?_⟩, ?_⟩, ?_⟩, ?_⟩, ?_⟩, ⟨⟨⟨?_, ?_⟩, ?_⟩, ?_⟩⟩, ?_⟩, ?_⟩ <;> omega
theorem iTape_a {μ μ' : xM} (h : asame μ μ') (hi : iTape μ) : iTape μ' := by
  unfold iTape at *
  rw [h 35 0 rfl, h 260 2 rfl, h.row (k := 36) (by omega), h.row (k := 261) (by omega)]
  exact hi
theorem iHouse_a {μ μ' : xM} (h : asame μ μ') (hi : iHouse μ) : iHouse μ' := by
  unfold iHouse at *
  rw [h.row (k := 39) (by omega), h.row (k := 40) (by omega), h.row (k := 41) (by omega), h.row (k := 68) (by omega), h.row (k := 263) (by omega), h.row (k := 67) (by omega), h.row (k := 69) (by omega), h.row (k := 70) (by omega), h.row (k := 71) (by omega), h.row (k := 72) (by omega)]
  refine ⟨hi.1, fun w hw h2 => ?_, hi.2.2⟩
  rw [h.row (k := 43 + w) (by omega)]
  exact hi.2.1 w hw h2
theorem iNight_c {μ μ' : xM} {o c m : Nat} (h1 : μ' o = μ o) (h2 : μ' (o + 1) = μ (o + 1)) (h3 : μ' c = μ c) (h4 : μ' 263 = μ 263) (hi : iNight μ o c m) : iNight μ' o c m := by
  unfold iNight at *
  rw [h1, h2, h3, h4]
  exact hi
theorem iNights_a {μ μ' : xM} (h : asame μ μ') (hi : iNights μ) : iNights μ' := by
  unfold iNights at *
  rw [h 0 17 rfl, h 260 19 rfl]
  refine ⟨iNight_c (h.row (by omega)) (h.row (by omega)) (h.row (by omega)) (h.row (by omega)) hi.1, hi.2.1, hi.2.2.1, hi.2.2.2.1, fun i hi3 hi4 => ?_⟩
  exact iNight_c (h.row (by omega)) (h.row (by omega)) (h.row (by omega)) (h.row (by omega)) (hi.2.2.2.2 i hi3 hi4)
theorem iGrow_c {μ μ' : xM} (h1 : ∀ k, 73 ≤ k → k < 208 → μ' k = μ k) (h2 : ∀ k, 267 ≤ k → k < 271 → μ' k = μ k) (h3 : μ' 263 = μ 263) (hi : iGrow μ) : iGrow μ' := by
  unfold iGrow at *
  rw [h3, h2 267 (by omega) (by omega), h2 268 (by omega) (by omega), h2 269 (by omega) (by omega), h2 270 (by omega) (by omega), h1 178 (by omega) (by omega), h1 204 (by omega) (by omega), h1 205 (by omega) (by omega), h1 206 (by omega) (by omega), h1 207 (by omega) (by omega)]
  obtain ⟨a, b, c, d, e⟩ := hi
  refine ⟨fun w v hw hv => ?_, fun w v hw hv => ?_, fun w hw => ?_, fun v hv => ?_, e⟩
  · rw [h1 (75 + w) (by omega) (by omega)]; exact a w v hw hv
  · rw [h1 (101 + w) (by omega) (by omega)]; exact b w v hw hv
  · rw [h1 (127 + w) (by omega) (by omega), h1 (153 + w) (by omega) (by omega)]; exact c w hw
  · rw [h1 (180 + v) (by omega) (by omega)]; exact d v hv
theorem iShut_a {μ μ' : xM} (h : asame μ μ') (hi : iShut μ) : iShut μ' := by
  unfold iShut at *
  rw [h 0 17 rfl, h 260 19 rfl, h 260 14 rfl, h.row (k := 39) (by omega), h.row (k := 263) (by omega), h.row (k := 249) (by omega), h.row (k := 67) (by omega)]
  exact hi
theorem iOpen_a {μ μ' : xM} (h : asame μ μ') (hi : iOpen μ) : iOpen μ' := by
  obtain ⟨a, b, c, d, e⟩ := hi
  refine ⟨(h 260 14 rfl).trans a, ?_, iHouse_a h c, iNights_a h d, iGrow_c (fun k _ _ => h.row (by omega)) (fun k _ _ => h.row (by omega)) (h.row (by omega)) e⟩
  rw [h.row (k := 263) (by omega)]
  exact b
/-! what both sides write in a call that only reads -/
def tr (μ : xM) (a : Int) : xM := wi (wi (wi μ 0 18 a) 260 0 0) 260 11 a
theorem tr_no (μ : xM) (a : Int) : wi (wi (wi (wi μ 0 18 a) 260 0 0) 260 11 0) 260 11 a = tr μ a := by
  funext k j
  simp only [tr, wi]
  by_cases h : k = 260 ∧ j = 11
  · simp [h]
  · simp [h]
theorem tr_a (μ : xM) (a : Int) : asame μ (tr μ a) := ((asame.w (by decide)).tr (asame.w (by decide))).tr (asame.w (by decide))
theorem iErr_tr {μ : xM} {a : Int} (h : iErr μ) (ha : a ≠ 4) : iErr (tr μ a) := by
  obtain ⟨h1, h2, h3⟩ := h
  refine ⟨?_, ?_, fun e => ?_⟩
  · simp [tr, wi, h1]
  · simp [tr, wi]
  · simp [tr, wi] at e
    exact absurd e ha
def th (μ : xM) : xM := wi μ 260 0 0
/-! what the class's small methods answer while an inn is open -/
theorem k_open {μ : xM} {Q : Int → xM → Prop} (h : iOpen μ) (h1 : Q 1 μ) : tX2_isOpen 39 μ Q := by
  have a := h.2.2.1.1 0 (by omega)
  have b := h.2.1.T
  exact s_isOpen (fun _ => h1) (fun _ => by omega)
theorem k_shut {μ : xM} {Q : Int → xM → Prop} (h : iShut μ) (h1 : Q 0 μ) : tX2_isOpen 39 μ Q := by
  have a := (h.2.1 0 (by omega)).1
  exact s_isOpen (fun _ => by omega) (fun _ => h1)
theorem k_word {μ : xM} {w : Int} {Q : Int → xM → Prop} (h : iOpen μ) (h1 : wordF (μ 263) w → Q 1 μ) (h0 : ¬ wordF (μ 263) w → Q 0 μ) : tX2_isWord 39 w μ Q := by
  have a := h.2.2.1.1 3 (by omega)
  have b := h.2.1.W
  exact s_hWord (fun q => h1 ⟨q.1, by have := q.2; omega⟩) (fun q => h0 (fun z => q ⟨z.1, by have := z.2; omega, by have := z.2; omega⟩))
theorem k_wordS {μ : xM} {w : Int} {Q : Int → xM → Prop} (h : iShut μ) (h0 : Q 0 μ) : tX2_isWord 39 w μ Q := by
  have a := (h.2.1 3 (by omega)).1
  exact s_hWord (fun q => by have := q.1; have := q.2.1; omega) (fun _ => h0)
theorem k_good {μ : xM} {w : Int} {Q : Int → xM → Prop} (h : iOpen μ) (h1 : goodI (μ 263) w → Q 1 μ) (h0 : ¬ goodI (μ 263) w → Q 0 μ) : tX2_isGood 39 w μ Q := by
  have a3 := h.2.2.1.1 3 (by omega)
  have a1 := h.2.2.1.1 1 (by omega)
  have b := h.2.1.W
  have c := h.2.2.1.2.1 w.toNat
  refine s_hGood (fun q => h1 ?_) (fun q => h0 (fun z => q ?_))
  · obtain ⟨⟨q1, q2, q3⟩, q4, q5⟩ := q
    have c := c (by omega) (by omega)
    exact ⟨⟨q1, by omega⟩, by rw [← c.2.2.1]; exact q4, by rw [← c.1, ← a1]; exact q5⟩
  · obtain ⟨⟨q1, q2⟩, q4, q5⟩ := z
    have c := c (by omega) (by omega)
    refine ⟨⟨q1, by omega, by omega⟩, c.2.2.1.trans q4, ?_⟩
    show μ 40 w.toNat ≤ μ 39 1
    rw [c.1, a1]; exact q5
theorem k_len {μ : xM} {w : Int} {Q : Int → xM → Prop} (h : iOpen μ) (h1 : wordF (μ 263) w → Q (μ 263 (7 + w.toNat)) μ) (h0 : ¬ wordF (μ 263) w → Q 0 μ) : tX2_lengthOf 39 w μ Q := by
  have a3 := h.2.2.1.1 3 (by omega)
  have b := h.2.1.W
  refine s_hLen (fun q => ?_) (fun q => h0 (fun z => q ⟨z.1, by have := z.2; omega, by have := z.2; omega⟩))
  obtain ⟨q1, q2, q3⟩ := q
  have c := (h.2.2.1.2.1 w.toNat (by omega) (by omega)).1
  show Q (μ 40 w.toNat) μ
  rw [c]
  exact h1 ⟨q1, by omega⟩
theorem k_glyph {μ : xM} {w i : Int} {Q : Int → xM → Prop} (h : iOpen μ) (hw : wordF (μ 263) w) (hi : 0 ≤ i) (hi2 : i < μ 263 (7 + w.toNat)) (h1 : Q (μ 263 (31 + 6 * w.toNat + i.toNat) - 97) μ) : tX2_glyphOf 39 w i μ Q := by
  have a3 := h.2.2.1.1 3 (by omega)
  have b := h.2.1.W
  obtain ⟨q1, q2⟩ := hw
  have bl := h.2.1.len (w := w.toNat) (by omega)
  refine s_hGlyph (fun q _ _ => ?_) (fun q => absurd ⟨⟨q1, by omega, by omega⟩, hi, by omega⟩ q)
  have c := (h.2.2.1.2.1 w.toNat (by omega) (by omega)).2.2.2 i.toNat (by omega)
  rw [if_pos (by omega)] at c
  show Q (μ (43 + w.toNat) i.toNat) μ
  rw [c]
  exact h1
