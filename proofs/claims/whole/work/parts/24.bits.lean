/-! bits of at most eight guests -/
theorem pw_nat {n : Int} (h : 0 ≤ n) : pw n = ((2 ^ n.toNat : Nat) : Int) := by simp [pw]
theorem pw_le {n : Int} (h0 : 0 ≤ n) (h : n ≤ 8) : 1 ≤ pw n ∧ pw n ≤ 256 := by
  have : ∀ k : Fin 9, 1 ≤ (2 : Int) ^ k.val ∧ (2 : Int) ^ k.val ≤ 256 := by decide
  exact this ⟨n.toNat, by omega⟩
theorem pw_succ {n : Int} (h : 0 ≤ n) : pw (n + 1) = 2 * pw n := by
  unfold pw
  rw [show (n + 1).toNat = n.toNat + 1 by omega, Int.pow_succ]
  omega
theorem b_all {P : Int → Int → Prop} (h : ∀ k : Fin 9, ∀ m : Fin 256, (m.val : Int) < (2 : Int) ^ k.val → P (k.val : Int) (m.val : Int)) {n s : Int} (h0 : 0 ≤ n) (h1 : n ≤ 8) (h2 : 0 ≤ s) (h3 : s < pw n) : P n s := by
  have b := pw_le h0 h1
  have q := h ⟨n.toNat, by omega⟩ ⟨s.toNat, by omega⟩ (by show (s.toNat : Int) < (2 : Int) ^ n.toNat; unfold pw at h3; omega)
  have e1 : ((n.toNat : Nat) : Int) = n := by omega
  have e2 : ((s.toNat : Nat) : Int) = s := by omega
  rw [show (((⟨n.toNat, by omega⟩ : Fin 9).val : Nat) : Int) = n from e1, show (((⟨s.toNat, by omega⟩ : Fin 256).val : Nat) : Int) = s from e2] at q
  exact q
set_option maxRecDepth 100000 in
theorem b_stand0 : ∀ k : Fin 9, ∀ m : Fin 256, (m.val : Int) < (2 : Int) ^ k.val → xAnd (xShl 1 (k.val : Int) - 1) (xXor (m.val : Int) (-1)) = pw (k.val : Int) - 1 - (m.val : Int) := by decide +kernel
set_option maxRecDepth 100000 in
theorem b_seat0 : ∀ k : Fin 9, ∀ m : Fin 256, (m.val : Int) < (2 : Int) ^ k.val → xOr (m.val : Int) (xShl 1 (k.val : Int)) = (m.val : Int) + pw (k.val : Int) := by decide +kernel
set_option maxRecDepth 100000 in
theorem b_bit0 : ∀ k : Fin 9, ∀ m : Fin 256, (m.val : Int) < (2 : Int) ^ k.val → ∀ g : Fin k.val, (xAnd (xShr (m.val : Int) (g.val : Int)) 1 = 1 ↔ ¬ xAnd (xShr (pw (k.val : Int) - 1 - (m.val : Int)) (g.val : Int)) 1 = 1) := by decide +kernel
theorem b_stand {n s : Int} (h0 : 0 ≤ n) (h1 : n ≤ 8) (h2 : 0 ≤ s) (h3 : s < pw n) : xAnd (xShl 1 n - 1) (xXor s (-1)) = pw n - 1 - s := b_all (P := fun n s => xAnd (xShl 1 n - 1) (xXor s (-1)) = pw n - 1 - s) b_stand0 h0 h1 h2 h3
theorem b_seat {n s : Int} (h0 : 0 ≤ n) (h1 : n ≤ 8) (h2 : 0 ≤ s) (h3 : s < pw n) : xOr s (xShl 1 n) = s + pw n := b_all (P := fun n s => xOr s (xShl 1 n) = s + pw n) b_seat0 h0 h1 h2 h3
theorem b_bit {n s g : Int} (h0 : 0 ≤ n) (h1 : n ≤ 8) (h2 : 0 ≤ s) (h3 : s < pw n) (hg : 0 ≤ g) (hg2 : g < n) : xAnd (xShr s g) 1 = 1 ↔ ¬ xAnd (xShr (pw n - 1 - s) g) 1 = 1 := by
  have q := b_all (P := fun n s => ∀ g : Int, 0 ≤ g → g < n → (xAnd (xShr s g) 1 = 1 ↔ ¬ xAnd (xShr (pw n - 1 - s) g) 1 = 1)) (fun k m hm g a b => by
    have z := b_bit0 k m hm ⟨g.toNat, by omega⟩
    have e : ((g.toNat : Nat) : Int) = g := by omega
    rw [show (((⟨g.toNat, by omega⟩ : Fin k.val).val : Nat) : Int) = g from e] at z
    exact z) h0 h1 h2 h3
  exact q g hg hg2
/-- how many bits -/
def bc (p1 : Int) : Int := xAnd (((xAnd (((xAnd (p1 - (xAnd (xUshr p1 1) 1431655765)) 858993459) + (xAnd (xUshr (p1 - (xAnd (xUshr p1 1) 1431655765)) 2) 858993459)) + (xUshr ((xAnd (p1 - (xAnd (xUshr p1 1) 1431655765)) 858993459) + (xAnd (xUshr (p1 - (xAnd (xUshr p1 1) 1431655765)) 2) 858993459)) 4)) 252645135) + (xUshr (xAnd (((xAnd (p1 - (xAnd (xUshr p1 1) 1431655765)) 858993459) + (xAnd (xUshr (p1 - (xAnd (xUshr p1 1) 1431655765)) 2) 858993459)) + (xUshr ((xAnd (p1 - (xAnd (xUshr p1 1) 1431655765)) 858993459) + (xAnd (xUshr (p1 - (xAnd (xUshr p1 1) 1431655765)) 2) 858993459)) 4)) 252645135) 8)) + (xUshr ((xAnd (((xAnd (p1 - (xAnd (xUshr p1 1) 1431655765)) 858993459) + (xAnd (xUshr (p1 - (xAnd (xUshr p1 1) 1431655765)) 2) 858993459)) + (xUshr ((xAnd (p1 - (xAnd (xUshr p1 1) 1431655765)) 858993459) + (xAnd (xUshr (p1 - (xAnd (xUshr p1 1) 1431655765)) 2) 858993459)) 4)) 252645135) + (xUshr (xAnd (((xAnd (p1 - (xAnd (xUshr p1 1) 1431655765)) 858993459) + (xAnd (xUshr (p1 - (xAnd (xUshr p1 1) 1431655765)) 2) 858993459)) + (xUshr ((xAnd (p1 - (xAnd (xUshr p1 1) 1431655765)) 858993459) + (xAnd (xUshr (p1 - (xAnd (xUshr p1 1) 1431655765)) 2) 858993459)) 4)) 252645135) 8)) 16)) 63
theorem s_bitCount {x : Int} {μ : xM} {Q : Int → xM → Prop} (h : Q (bc x) μ) : tJ6_bitCount_0f7a4 x μ Q := fun _ _ => h
set_option maxRecDepth 100000 in
theorem bc0 : ∀ k : Fin 8, ∀ m : Fin 256, (m.val : Int) < (2 : Int) ^ k.val → bc ((m.val : Int) + pw (k.val : Int)) = bc (m.val : Int) + 1 := by decide +kernel
theorem bc_succ {n s : Int} (h0 : 0 ≤ n) (h1 : n < 8) (h2 : 0 ≤ s) (h3 : s < pw n) : bc (s + pw n) = bc s + 1 := by
  have b := pw_le h0 (by omega)
  have q := bc0 ⟨n.toNat, by omega⟩ ⟨s.toNat, by omega⟩ (by show (s.toNat : Int) < (2 : Int) ^ n.toNat; unfold pw at h3; omega)
  have e1 : ((n.toNat : Nat) : Int) = n := by omega
  have e2 : ((s.toNat : Nat) : Int) = s := by omega
  rw [show (((⟨n.toNat, by omega⟩ : Fin 8).val : Nat) : Int) = n from e1, show (((⟨s.toNat, by omega⟩ : Fin 256).val : Nat) : Int) = s from e2] at q
  exact q
theorem bc_zero : bc 0 = 0 := by decide +kernel
