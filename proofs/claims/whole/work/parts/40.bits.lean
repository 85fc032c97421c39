/-! bits counted -/
def bcnt (s : Int) : Nat → Int
  | 0 => 0
  | g + 1 => bcnt s g + if xAnd (xShr s g) 1 = 1 then 1 else 0
set_option maxRecDepth 100000 in
theorem bcnt0 : ∀ k : Fin 9, ∀ m : Fin 256, (m.val : Int) < (2 : Int) ^ k.val → bc (m.val : Int) = bcnt (m.val : Int) k.val := by decide +kernel
theorem bcnt_eq {n s : Int} (h0 : 0 ≤ n) (h1 : n ≤ 8) (h2 : 0 ≤ s) (h3 : s < pw n) : bc s = bcnt s n.toNat := by
  have := b_all (P := fun n s => bc s = bcnt s n.toNat) (fun k m h => bcnt0 k m h) h0 h1 h2 h3
  exact this
set_option maxRecDepth 100000 in
theorem b01_0 : ∀ g : Fin 8, ∀ m : Fin 256, xAnd (xShr (m.val : Int) (g.val : Int)) 1 = 0 ∨ xAnd (xShr (m.val : Int) (g.val : Int)) 1 = 1 := by decide +kernel
theorem b01 {g s : Int} (h0 : 0 ≤ g) (h1 : g < 8) (h2 : 0 ≤ s) (h3 : s < 256) : xAnd (xShr s g) 1 = 0 ∨ xAnd (xShr s g) 1 = 1 := by
  have := b01_0 ⟨g.toNat, by omega⟩ ⟨s.toNat, by omega⟩
  simp only [Int.toNat_of_nonneg h0, Int.toNat_of_nonneg h2] at this
  exact this
theorem shl_pw {n : Int} (h0 : 0 ≤ n) (h1 : n ≤ 8) : xShl 1 n = pw n := by
  have : ∀ k : Fin 9, xShl 1 (k.val : Int) = pw (k.val : Int) := by decide +kernel
  have := this ⟨n.toNat, by omega⟩
  simp only [Int.toNat_of_nonneg h0] at this
  exact this
