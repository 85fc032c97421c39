/-! THE MEMORY: cell and place give a whole number; ints and longs are such numbers by their remainders -/
abbrev xM : Type := Nat → Nat → Int
def xIn (x : Int) : Prop := -2147483648 ≤ x ∧ x ≤ 2147483647
def xIl (x : Int) : Prop := -9223372036854775808 ≤ x ∧ x ≤ 9223372036854775807
abbrev iV (x : Int) : Value := .int (Int32.ofInt x)
abbrev jV (x : Int) : Value := .long (Int64.ofInt x)
def wi (μ : xM) (k j : Nat) (v : Int) : xM := fun k' j' => if k' = k ∧ j' = j then v else μ k' j'
theorem wi_self (μ : xM) (k j : Nat) (v : Int) : wi μ k j v k j = v := by simp [wi]
theorem wi_cell {μ : xM} {k j k' j' : Nat} {v : Int} (h : k' ≠ k) : wi μ k j v k' j' = μ k' j' := by simp [wi, h]
theorem wi_place {μ : xM} {k j j' : Nat} {v : Int} (h : j' ≠ j) : wi μ k j v k j' = μ k j' := by simp [wi, h]
theorem xIn.il {x : Int} (h : xIn x) : xIl x := by unfold xIn at h; unfold xIl; omega
def xRan (μ : xM) : Prop := ∀ k j : Nat, (k < 279 → xIn (μ k j)) ∧ xIl (μ k j)
theorem xRan.i {μ : xM} (h : xRan μ) {k j : Nat} (hk : k < 279) : xIn (μ k j) := (h k j).1 hk
theorem xRan.l {μ : xM} (h : xRan μ) {k j : Nat} : xIl (μ k j) := (h k j).2
theorem xRan.w {μ : xM} (h : xRan μ) {k j : Nat} {v : Int} (hv : xIn v) : xRan (wi μ k j v) := by
  intro k' j'
  unfold wi
  split
  · exact ⟨fun _ => hv, hv.il⟩
  · exact h k' j'
theorem xRan.wl {μ : xM} (h : xRan μ) {k j : Nat} {v : Int} (hk : 279 ≤ k) (hv : xIl v) : xRan (wi μ k j v) := by
  intro k' j'
  unfold wi
  split
  · rename_i e
    exact ⟨fun q => absurd q (by omega), hv⟩
  · exact h k' j'
/-! ints as numbers -/
theorem xI_toInt {x : Int} (h : xIn x) : (Int32.ofInt x).toInt = x := Int32.toInt_ofInt_of_le (by have := h.1; omega) (by have := h.2; omega)
theorem xI_nat {x : Int} (h : xIn x) : (Int32.ofInt x).toNatClampNeg = x.toNat := Int32.toNatClampNeg_ofInt_of_le (by have := h.1; omega) (by have := h.2; omega)
theorem xI_lt {x y : Int} (hx : xIn x) (hy : xIn y) : Int32.ofInt x < Int32.ofInt y ↔ x < y := by rw [Int32.lt_iff_toInt_lt, xI_toInt hx, xI_toInt hy]
theorem xI_le {x y : Int} (hx : xIn x) (hy : xIn y) : Int32.ofInt x ≤ Int32.ofInt y ↔ x ≤ y := by rw [Int32.le_iff_toInt_le, xI_toInt hx, xI_toInt hy]
theorem xI_eq {x y : Int} (hx : xIn x) (hy : xIn y) : Int32.ofInt x = Int32.ofInt y ↔ x = y := by rw [← Int32.toInt_inj, xI_toInt hx, xI_toInt hy]
theorem xI_in {x : Int} {n : Nat} (h0 : 0 ≤ x) (h1 : x < n) (hx : xIn x) : vp_in (Int32.ofInt x) n := by rw [vp_in_iff, xI_toInt hx]; exact ⟨h0, h1⟩
theorem xIn0 : xIn 0 := by unfold xIn; omega
theorem xL_toInt {x : Int} (h : xIl x) : (Int64.ofInt x).toInt = x := Int64.toInt_ofInt_of_le (by have := h.1; omega) (by have := h.2; omega)
theorem xL_lt {x y : Int} (hx : xIl x) (hy : xIl y) : Int64.ofInt x < Int64.ofInt y ↔ x < y := by rw [Int64.lt_iff_toInt_lt, xL_toInt hx, xL_toInt hy]
theorem xL_eq {x y : Int} (hx : xIl x) (hy : xIl y) : Int64.ofInt x = Int64.ofInt y ↔ x = y := by rw [← Int64.toInt_inj, xL_toInt hx, xL_toInt hy]
def xAnd (x y : Int) : Int := (Int32.ofInt x &&& Int32.ofInt y).toInt
def xOr (x y : Int) : Int := (Int32.ofInt x ||| Int32.ofInt y).toInt
def xXor (x y : Int) : Int := (Int32.ofInt x ^^^ Int32.ofInt y).toInt
def xShl (x y : Int) : Int := (Int32.ofInt x <<< (Int32.ofInt y &&& 31)).toInt
def xShr (x y : Int) : Int := (Int32.ofInt x >>> (Int32.ofInt y &&& 31)).toInt
def xUshr (x y : Int) : Int := ((Int32.ofInt x).toUInt32 >>> ((Int32.ofInt y).toUInt32 &&& Int32.toUInt32 31)).toInt32.toInt
theorem xI_rng (x : Int32) : xIn x.toInt := ⟨by have := x.le_toInt; omega, by have := x.toInt_lt; omega⟩
theorem xAnd_in (x y : Int) : xIn (xAnd x y) := xI_rng _
theorem xOr_in (x y : Int) : xIn (xOr x y) := xI_rng _
theorem xXor_in (x y : Int) : xIn (xXor x y) := xI_rng _
theorem xShl_in (x y : Int) : xIn (xShl x y) := xI_rng _
theorem xShr_in (x y : Int) : xIn (xShr x y) := xI_rng _
theorem xUshr_in (x y : Int) : xIn (xUshr x y) := xI_rng _
theorem xI_div {x y : Int} (hx : xIn x) (hy : xIn y) (h0 : 0 < y) : Int32.ofInt x / Int32.ofInt y = Int32.ofInt (x.tdiv y) := by
  have hb : Int32.ofInt y ≠ -1 := by
    intro h
    have h2 := congrArg Int32.toInt h
    rw [xI_toInt hy] at h2
    have h3 : (-1 : Int32).toInt = -1 := by decide
    omega
  rw [← Int32.toInt_inj, Int32.toInt_div_of_ne_right _ _ hb, xI_toInt hx, xI_toInt hy, xI_toInt]
  have h1 : x.tdiv y ≤ 2147483647 ∧ -2147483648 ≤ x.tdiv y := by
    have a := hx.1; have b := hx.2
    rcases Int.le_total 0 x with h | h
    · rw [Int.tdiv_eq_ediv_of_nonneg h]
      exact ⟨Int.le_trans (Int.ediv_le_self _ h) b, Int.le_trans (by omega) (Int.ediv_nonneg h (Int.le_of_lt h0))⟩
    · have e : x.tdiv y = - ((-x) / y) := by
        rw [← Int.tdiv_eq_ediv_of_nonneg (by omega : 0 ≤ -x), Int.neg_tdiv, Int.neg_neg]
      have h5 : (-x) / y ≤ -x := Int.ediv_le_self _ (by omega)
      have h6 : 0 ≤ (-x) / y := Int.ediv_nonneg (by omega) (Int.le_of_lt h0)
      omega
  exact ⟨h1.2, h1.1⟩
theorem xI_rem {x y : Int} (hx : xIn x) (hy : xIn y) (h0 : 0 < y) : Int32.ofInt x - Int32.ofInt x / Int32.ofInt y * Int32.ofInt y = Int32.ofInt (x.tmod y) := by
  rw [xI_div hx hy h0, ← Int32.ofInt_mul, ← Int32.ofInt_sub, Int.tmod_def, Int.mul_comm y]
theorem xL_div {x y : Int} (hx : xIl x) (hy : xIl y) (h0 : 0 < y) : Int64.ofInt x / Int64.ofInt y = Int64.ofInt (x.tdiv y) := by
  have hb : Int64.ofInt y ≠ -1 := by
    intro h
    have h2 := congrArg Int64.toInt h
    rw [xL_toInt hy] at h2
    have h3 : (-1 : Int64).toInt = -1 := by decide
    omega
  rw [← Int64.toInt_inj, Int64.toInt_div_of_ne_right _ _ hb, xL_toInt hx, xL_toInt hy, xL_toInt]
  have h1 : x.tdiv y ≤ 9223372036854775807 ∧ -9223372036854775808 ≤ x.tdiv y := by
    have a := hx.1; have b := hx.2
    rcases Int.le_total 0 x with h | h
    · rw [Int.tdiv_eq_ediv_of_nonneg h]
      exact ⟨Int.le_trans (Int.ediv_le_self _ h) b, Int.le_trans (by omega) (Int.ediv_nonneg h (Int.le_of_lt h0))⟩
    · have e : x.tdiv y = - ((-x) / y) := by
        rw [← Int.tdiv_eq_ediv_of_nonneg (by omega : 0 ≤ -x), Int.neg_tdiv, Int.neg_neg]
      have h5 : (-x) / y ≤ -x := Int.ediv_le_self _ (by omega)
      have h6 : 0 ≤ (-x) / y := Int.ediv_nonneg (by omega) (Int.le_of_lt h0)
      omega
  exact ⟨h1.2, h1.1⟩
theorem xL_rem {x y : Int} (hx : xIl x) (hy : xIl y) (h0 : 0 < y) : Int64.ofInt x - Int64.ofInt x / Int64.ofInt y * Int64.ofInt y = Int64.ofInt (x.tmod y) := by
  rw [xL_div hx hy h0, ← Int64.ofInt_mul, ← Int64.ofInt_sub, Int.tmod_def, Int.mul_comm y]
/-! loops: an invariant with a number that falls -/
def xLoop0 (μ : xM) (body : (xM → Prop) → xM → Prop) : Prop := ∃ I : Nat → xM → Prop, (∃ n, I n  μ) ∧ ∀ (n : Nat) (μ : xM), I n  μ → xRan μ → body (fun  μ' => ∃ n', n' < n ∧ I n'  μ')  μ
def xLoop1 (a0 : Int) (μ : xM) (body : (Int → xM → Prop) → Int → xM → Prop) : Prop := ∃ I : Nat → Int → xM → Prop, (∃ n, I n a0 μ) ∧ ∀ (n : Nat) (a0 : Int) (μ : xM), I n a0 μ → xRan μ → body (fun a0' μ' => ∃ n', n' < n ∧ I n' a0' μ') a0 μ
def xLoop2 (a0 a1 : Int) (μ : xM) (body : (Int → Int → xM → Prop) → Int → Int → xM → Prop) : Prop := ∃ I : Nat → Int → Int → xM → Prop, (∃ n, I n a0 a1 μ) ∧ ∀ (n : Nat) (a0 a1 : Int) (μ : xM), I n a0 a1 μ → xRan μ → body (fun a0' a1' μ' => ∃ n', n' < n ∧ I n' a0' a1' μ') a0 a1 μ
def xLoop3 (a0 a1 a2 : Int) (μ : xM) (body : (Int → Int → Int → xM → Prop) → Int → Int → Int → xM → Prop) : Prop := ∃ I : Nat → Int → Int → Int → xM → Prop, (∃ n, I n a0 a1 a2 μ) ∧ ∀ (n : Nat) (a0 a1 a2 : Int) (μ : xM), I n a0 a1 a2 μ → xRan μ → body (fun a0' a1' a2' μ' => ∃ n', n' < n ∧ I n' a0' a1' a2' μ') a0 a1 a2 μ
def xLoop4 (a0 a1 a2 a3 : Int) (μ : xM) (body : (Int → Int → Int → Int → xM → Prop) → Int → Int → Int → Int → xM → Prop) : Prop := ∃ I : Nat → Int → Int → Int → Int → xM → Prop, (∃ n, I n a0 a1 a2 a3 μ) ∧ ∀ (n : Nat) (a0 a1 a2 a3 : Int) (μ : xM), I n a0 a1 a2 a3 μ → xRan μ → body (fun a0' a1' a2' a3' μ' => ∃ n', n' < n ∧ I n' a0' a1' a2' a3' μ') a0 a1 a2 a3 μ
def xLoop5 (a0 a1 a2 a3 a4 : Int) (μ : xM) (body : (Int → Int → Int → Int → Int → xM → Prop) → Int → Int → Int → Int → Int → xM → Prop) : Prop := ∃ I : Nat → Int → Int → Int → Int → Int → xM → Prop, (∃ n, I n a0 a1 a2 a3 a4 μ) ∧ ∀ (n : Nat) (a0 a1 a2 a3 a4 : Int) (μ : xM), I n a0 a1 a2 a3 a4 μ → xRan μ → body (fun a0' a1' a2' a3' a4' μ' => ∃ n', n' < n ∧ I n' a0' a1' a2' a3' a4' μ') a0 a1 a2 a3 a4 μ
def xLoop6 (a0 a1 a2 a3 a4 a5 : Int) (μ : xM) (body : (Int → Int → Int → Int → Int → Int → xM → Prop) → Int → Int → Int → Int → Int → Int → xM → Prop) : Prop := ∃ I : Nat → Int → Int → Int → Int → Int → Int → xM → Prop, (∃ n, I n a0 a1 a2 a3 a4 a5 μ) ∧ ∀ (n : Nat) (a0 a1 a2 a3 a4 a5 : Int) (μ : xM), I n a0 a1 a2 a3 a4 a5 μ → xRan μ → body (fun a0' a1' a2' a3' a4' a5' μ' => ∃ n', n' < n ∧ I n' a0' a1' a2' a3' a4' a5' μ') a0 a1 a2 a3 a4 a5 μ
def xLoop7 (a0 a1 a2 a3 a4 a5 a6 : Int) (μ : xM) (body : (Int → Int → Int → Int → Int → Int → Int → xM → Prop) → Int → Int → Int → Int → Int → Int → Int → xM → Prop) : Prop := ∃ I : Nat → Int → Int → Int → Int → Int → Int → Int → xM → Prop, (∃ n, I n a0 a1 a2 a3 a4 a5 a6 μ) ∧ ∀ (n : Nat) (a0 a1 a2 a3 a4 a5 a6 : Int) (μ : xM), I n a0 a1 a2 a3 a4 a5 a6 μ → xRan μ → body (fun a0' a1' a2' a3' a4' a5' a6' μ' => ∃ n', n' < n ∧ I n' a0' a1' a2' a3' a4' a5' a6' μ') a0 a1 a2 a3 a4 a5 a6 μ
theorem xIz {x : Int} (h : x = 0 ∨ x = 1) : xIn x := by rcases h with rfl | rfl <;> exact ⟨by decide, by decide⟩
theorem xz1 {x : Int} (h : x = 0 ∨ x = 1) (h0 : ¬ x = 0) : x = 1 := h.resolve_left h0
theorem xIcmp (a c : Int) : xIn (if c < a then 1 else if a = c then 0 else -1) := by
  split
  · exact ⟨by decide, by decide⟩
  · split <;> exact ⟨by decide, by decide⟩
def isHouse (h : Nat) : Prop := lay h = (0, 2, [0, 0, 0, 0, 0, 0, 0, h + 3, h + 4, h + 5, h + 31, h + 32, h + 33, h + 34, h + 35]) ∧ h < 240 ∧ lay (h + 1) = (1, 24, []) ∧ lay (h + 2) = (1, 24, []) ∧ lay (h + 3) = (5, 25, [h + 4, 1]) ∧ (∀ i, i < 25 → lay (h + 4 + i) = (1, 6, [])) ∧ lay (h + 29) = (2, 24, []) ∧ lay (h + 30) = (1, 8, []) ∧ lay (h + 31) = (1, 6, []) ∧ lay (h + 32) = (1, 6, []) ∧ lay (h + 33) = (1, 6, [])
def isSurvey (h : Nat) : Prop := lay h = (0, 9, [0, 0, 0, 0, 0, 0, 41, h + 3, h + 4, h + 5, h + 6, 0, 0, 0, 0, 0, 0, 0]) ∧ h < 240 ∧ lay (h + 1) = (1, 26, []) ∧ lay (h + 2) = (1, 24, []) ∧ lay (h + 3) = (1, 3, []) ∧ lay (h + 4) = (1, 3, [])
def isNight (h : Nat) : Prop := lay h = (0, 4, [0, 0, 0, h + 3]) ∧ h < 270 ∧ lay (h + 1) = (1, 3, [])
theorem isHouse_1 : isHouse 1 := by unfold isHouse; decide +kernel
theorem isHouse_39 : isHouse 39 := by unfold isHouse; decide +kernel
theorem isSurvey_211 : isSurvey 211 := by unfold isSurvey; decide +kernel
theorem isSurvey_216 : isSurvey 216 := by unfold isSurvey; decide +kernel
theorem isSurvey_221 : isSurvey 221 := by unfold isSurvey; decide +kernel
theorem isSurvey_226 : isSurvey 226 := by unfold isSurvey; decide +kernel
theorem isNight_249 : isNight 249 := by unfold isNight; decide +kernel
theorem isNight_251 : isNight 251 := by unfold isNight; decide +kernel
theorem isNight_m (i : Nat) (h : i < 3) : isNight (254 + 2 * i) := (show ∀ i : Fin 3, isNight (254 + 2 * i.val) by unfold isNight; decide +kernel) ⟨i, h⟩
/-! the texts, and a row copied -/
def sLen (i : Nat) : Int := (xSLen.getD i 0 : Nat)
def sChr (i : Nat) (j : Int) : Int := ((xSByt.getD i []).getD j.toNat 0).toInt
theorem sChr_in (i : Nat) (j : Int) : xIn (sChr i j) := xI_rng _
theorem sLen_in (i : Nat) : xIn (sLen i) := by
  have h : ∀ l : List Nat, (∀ q ∈ l, q < 100) → ∀ i : Nat, l.getD i 0 < 100 := by
    intro l hl i
    rw [List.getD_eq_getElem?_getD]
    cases h : l[i]? with
    | none => simp
    | some v => exact hl v (List.mem_of_getElem? h)
  have := h xSLen (by decide) i
  unfold sLen xIn
  omega
def cpM (μ : xM) (a b n : Nat) : xM := fun k j => if k = b ∧ j < n then μ a j else μ k j
theorem xmax_in {a c : Int} (ha : xIn a) (hc : xIn c) : xIn (max a c) := by unfold xIn at *; omega
theorem xmin_in {a c : Int} (ha : xIn a) (hc : xIn c) : xIn (min a c) := by unfold xIn at *; omega
theorem xIb {i : Int} {n : Nat} (h : 0 ≤ i ∧ i < (n : Int)) (hn : n ≤ 200000) : xIn i := by unfold xIn; omega
