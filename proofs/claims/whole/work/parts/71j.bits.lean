/-! bits of rows -/
theorem bit_eq (x : Int) : ∀ i : Nat, i < 32 → xAnd (xUshr x i) 1 = (((Int32.ofInt x).toBitVec >>> i) &&& 1#32).toInt := by
  intro i hi
  unfold xAnd xUshr
  rw [Int32.ofInt_toInt]
  rcases (show i = 0 ∨ i = 1 ∨ i = 2 ∨ i = 3 ∨ i = 4 ∨ i = 5 ∨ i = 6 ∨ i = 7 ∨ i = 8 ∨ i = 9 ∨ i = 10 ∨ i = 11 ∨ i = 12 ∨ i = 13 ∨ i = 14 ∨ i = 15 ∨ i = 16 ∨ i = 17 ∨ i = 18 ∨ i = 19 ∨ i = 20 ∨ i = 21 ∨ i = 22 ∨ i = 23 ∨ i = 24 ∨ i = 25 ∨ i = 26 ∨ i = 27 ∨ i = 28 ∨ i = 29 ∨ i = 30 ∨ i = 31 by omega) with rfl | rfl | rfl | rfl | rfl | rfl | rfl | rfl | rfl | rfl | rfl | rfl | rfl | rfl | rfl | rfl | rfl | rfl | rfl | rfl | rfl | rfl | rfl | rfl | rfl | rfl | rfl | rfl | rfl | rfl | rfl | rfl <;> rfl
theorem b_one : ∀ j : Fin 32, (1#32).getLsbD j.val = decide (j.val = 0) := by decide
theorem bit_and (v : BitVec 32) (i : Nat) : (v >>> i) &&& 1#32 = if v.getLsbD i then 1#32 else 0#32 := by
  apply BitVec.eq_of_getLsbD_eq
  intro j hj
  have b := b_one ⟨j, hj⟩
  simp only at b
  simp only [BitVec.getLsbD_and, BitVec.getLsbD_ushiftRight, b]
  by_cases e : j = 0
  · subst e
    cases h : v.getLsbD i <;> simp [h]
  · cases h : v.getLsbD i <;> simp [e, b]
theorem bit_is (x : Int) (i : Nat) (hi : i < 32) : xAnd (xUshr x i) 1 = 1 ↔ (Int32.ofInt x).toBitVec.getLsbD i = true := by
  rw [bit_eq x i hi, bit_and]
  cases h : (Int32.ofInt x).toBitVec.getLsbD i
  · constructor
    · intro z; exact absurd z (by decide)
    · intro z; exact absurd z (by decide)
  · constructor
    · intro _; rfl
    · intro _; rfl
theorem or_one (x : Int) (i : Nat) (hi : i < 32) : (Int32.ofInt (xOr x (xShl 1 i))).toBitVec = (Int32.ofInt x).toBitVec ||| (1#32 <<< i) := by
  unfold xOr xShl
  rw [Int32.ofInt_toInt, Int32.ofInt_toInt]
  rcases (show i = 0 ∨ i = 1 ∨ i = 2 ∨ i = 3 ∨ i = 4 ∨ i = 5 ∨ i = 6 ∨ i = 7 ∨ i = 8 ∨ i = 9 ∨ i = 10 ∨ i = 11 ∨ i = 12 ∨ i = 13 ∨ i = 14 ∨ i = 15 ∨ i = 16 ∨ i = 17 ∨ i = 18 ∨ i = 19 ∨ i = 20 ∨ i = 21 ∨ i = 22 ∨ i = 23 ∨ i = 24 ∨ i = 25 ∨ i = 26 ∨ i = 27 ∨ i = 28 ∨ i = 29 ∨ i = 30 ∨ i = 31 by omega) with rfl | rfl | rfl | rfl | rfl | rfl | rfl | rfl | rfl | rfl | rfl | rfl | rfl | rfl | rfl | rfl | rfl | rfl | rfl | rfl | rfl | rfl | rfl | rfl | rfl | rfl | rfl | rfl | rfl | rfl | rfl | rfl <;> rfl
theorem bit_or (x : Int) (i j : Nat) (hi : i < 32) (hj : j < 32) : xAnd (xUshr (xOr x (xShl 1 i)) j) 1 = 1 ↔ j = i ∨ xAnd (xUshr x j) 1 = 1 := by
  rw [bit_is _ j hj, bit_is _ j hj, or_one x i hi]
  simp only [BitVec.getLsbD_or, BitVec.getLsbD_shiftLeft, Bool.or_eq_true]
  by_cases e : j = i
  · subst e
    have : (1#32).getLsbD (j - j) = true := by rw [Nat.sub_self]; decide
    simp [hj, this]
  · by_cases l : j < i
    · simp [l, e]
    · have b := b_one ⟨j - i, by omega⟩
      simp only at b
      have : ¬ j - i = 0 := by omega
      simp [b, this, e]
def inB (r : Nat → Int) (x : Nat) : Prop := xAnd (xUshr (r (x / 32)) ((x % 32 : Nat) : Int)) 1 = 1
theorem inB_set {r r' : Nat → Int} {x : Nat} (h1 : r' (x / 32) = xOr (r (x / 32)) (xShl 1 ((x % 32 : Nat) : Int))) (h2 : ∀ j, j ≠ x / 32 → r' j = r j) (y : Nat) : inB r' y ↔ y = x ∨ inB r y := by
  unfold inB
  by_cases e : y / 32 = x / 32
  · rw [e, h1, bit_or _ _ _ (by omega) (by omega)]
    constructor
    · rintro (z | z)
      · left; omega
      · exact Or.inr z
    · rintro (z | z)
      · left; rw [z]
      · exact Or.inr z
  · rw [h2 _ e]
    constructor
    · intro z; exact Or.inr z
    · rintro (z | z)
      · exact absurd (by rw [z]) e
      · exact z
theorem inB_zero (y : Nat) {r : Nat → Int} (h : r (y / 32) = 0) : ¬ inB r y := by
  unfold inB
  rw [h, bit_is _ _ (by omega)]
  have : (Int32.ofInt 0).toBitVec = 0#32 := by decide
  rw [this]
  simp
theorem td32 (x : Nat) : (x : Int).tdiv 32 = ((x / 32 : Nat) : Int) := by rw [Int.tdiv_eq_ediv_of_nonneg (by omega)]; omega
theorem tm32 (x : Nat) : (x : Int).tmod 32 = ((x % 32 : Nat) : Int) := by rw [Int.tmod_eq_emod_of_nonneg (by omega)]; omega
theorem s_isIn {μ : xM} {k x : Nat} {Q : Int → xM → Prop} (hx : x < 15625) (h1 : inB (μ k) x → Q 1 μ) (h0 : ¬ inB (μ k) x → Q 0 μ) : tX7_isIn k 489 x μ Q := by
  intro _ _
  rw [td32, tm32, Int.toNat_natCast]
  refine ⟨fun z => by omega, fun _ => ⟨⟨by omega, by omega⟩, fun z => by omega, fun _ => ⟨⟨by omega, by omega⟩, fun z => h0 z, fun z => h1 z⟩⟩⟩
