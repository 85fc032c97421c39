/-! THE INVARIANT between the class (cells 0 .. 259) and the reference (cells 260 .. 279) -/
def iTape (μ : xM) : Prop := μ 35 0 = μ 260 2 ∧ 0 ≤ μ 260 2 ∧ μ 260 2 ≤ 900 ∧ ∀ i : Nat, (i : Int) < μ 260 2 → μ 36 i = μ 261 i ∧ 0 ≤ μ 261 i ∧ μ 261 i ≤ 255
def iErr (μ : xM) : Prop := μ 35 1 = μ 260 9 ∧ μ 0 18 = μ 260 11 ∧ (μ 260 11 = 4 → μ 35 2 = μ 260 10)
/-- the numbers of an inn are within their bounds -/
def okR (R : Nat → Int) : Prop := (1 ≤ R 0 ∧ R 0 ≤ 3) ∧ (1 ≤ R 1 ∧ R 1 ≤ 6) ∧ (0 ≤ R 2 ∧ R 2 ≤ 2) ∧ (1 ≤ R 3 ∧ R 3 ≤ 24) ∧ (1 ≤ R 4 ∧ R 4 ≤ 8) ∧ (0 ≤ R 5 ∧ R 5 ≤ 6) ∧ (0 ≤ R 6 ∧ R 6 ≤ 6)
  ∧ (∀ w : Nat, (w : Int) < R 3 → (1 ≤ R (7 + w) ∧ R (7 + w) ≤ 6) ∧ (0 ≤ R (175 + w) ∧ R (175 + w) ≤ 99) ∧ (R (199 + w) = 0 ∨ R (199 + w) = 1) ∧ ∀ i : Nat, (i : Int) < R (7 + w) → 97 ≤ R (31 + 6 * w + i) ∧ R (31 + 6 * w + i) ≤ 122)
  ∧ (∀ g : Nat, (g : Int) < R 4 → 0 ≤ R (295 + g) ∧ R (295 + g) ≤ 25)
  ∧ (∀ i : Nat, (i : Int) < R 5 → (0 ≤ R (303 + i) ∧ R (303 + i) ≤ 25) ∧ (1 ≤ R (309 + i) ∧ R (309 + i) ≤ 9))
  ∧ (∀ i : Nat, (i : Int) < R 6 → 0 ≤ R (315 + i) ∧ R (315 + i) < R 3)
def iHouse (μ : xM) : Prop := (∀ j : Nat, j < 7 → μ 39 j = μ 263 j)
  ∧ (∀ w : Nat, (w : Int) < μ 263 3 → μ 40 w = μ 263 (7 + w) ∧ μ 41 w = μ 263 (175 + w) ∧ μ 68 w = μ 263 (199 + w) ∧ ∀ i : Nat, i < 6 → μ (43 + w) i = if (i : Int) < μ 263 (7 + w) then μ 263 (31 + 6 * w + i) - 97 else -1)
  ∧ (∀ i : Nat, i < 6 → μ 67 i = -1)
  ∧ (∀ g : Nat, (g : Int) < μ 263 4 → μ 69 g = μ 263 (295 + g))
  ∧ (∀ i : Nat, (i : Int) < μ 263 5 → μ 70 i = μ 263 (303 + i) ∧ μ 71 i = μ 263 (309 + i))
  ∧ (∀ i : Nat, (i : Int) < μ 263 6 → μ 72 i = μ 263 (315 + i))
def iInn (μ : xM) : Prop := (μ 260 14 = 0 ∧ (∀ j : Nat, j < 7 → μ 263 j = 0)) ∨ (μ 260 14 = 1 ∧ okR (μ 263))
/-- bit g of x -/
def bit (x : Int) (g : Nat) : Int := x / 2 ^ g % 2
/-- a Night of the class (cell o) and one of the reference (from place m of cell c on) -/
def iNight (μ : xM) (o c m : Nat) : Prop := (∀ t : Nat, t < 3 → μ (o + 1) t = μ c (m + t) ∧ 0 ≤ μ c (m + t) ∧ μ c (m + t) ≤ 24 ∧ (μ c (m + t) = 24 ∨ μ c (m + t) < μ 263 3) ∧ (μ 263 0 ≤ t → μ c (m + t) = 24))
  ∧ (μ o 0 = μ c (m + 3) ∧ 0 ≤ μ o 0 ∧ μ o 0 ≤ 3) ∧ (μ o 1 = μ c (m + 4) ∧ 0 ≤ μ o 1 ∧ μ o 1 ≤ μ 263 4)
  ∧ (0 ≤ μ o 2 ∧ μ o 2 < 256 ∧ 0 ≤ μ c (m + 5) ∧ μ c (m + 5) < 256) ∧ ∀ g : Nat, g < 8 → ((g : Int) < μ o 1 → bit (μ o 2) g + bit (μ c (m + 5)) g = 1) ∧ (μ o 1 ≤ g → bit (μ o 2) g = 0 ∧ bit (μ c (m + 5)) g = 0)
def iNights (μ : xM) : Prop := iNight μ 249 265 0 ∧ μ 0 17 = μ 260 19 ∧ 0 ≤ μ 260 19 ∧ μ 260 19 ≤ 3 ∧ ∀ i : Nat, (i : Int) < μ 260 19 → iNight μ (254 + 2 * i) 266 (6 * i)
/-- what the growth rows say: gain is by; the lists are the rising ones of it -/
def iGrow (μ : xM) : Prop := (∀ w v : Nat, w < 25 → v < 24 → μ (101 + w) v = μ 267 (24 * w + v) ∧ -1 ≤ μ 267 (24 * w + v) ∧ μ 267 (24 * w + v) ≤ 25)
/-- cells and places that no later call looks at before they are written anew: the reference's scratch, the class's scratch -/
def scratch (k j : Nat) : Prop := (k = 260 ∧ j = 0) ∨ k = 262 ∨ k = 264 ∨ (271 ≤ k ∧ k ≤ 280) ∨ (k = 260 ∧ 29 ≤ j ∧ j ≤ 33)
def same (μ μ' : xM) : Prop := ∀ k j, ¬ scratch k j → μ' k j = μ k j
theorem same.rf (μ : xM) : same μ μ := fun _ _ _ => rfl
theorem same.w {μ : xM} {k j : Nat} {v : Int} (h : scratch k j) : same μ (wi μ k j v) := by
  intro a b hn
  unfold wi
  split
  · rename_i e
    rw [e.1, e.2] at hn
    exact absurd h hn
  · rfl
theorem same.tr {μ μ1 μ2 : xM} (h1 : same μ μ1) (h2 : same μ1 μ2) : same μ μ2 := fun k j hn => (h2 k j hn).trans (h1 k j hn)
/-- the answer to refusals: both sides set their number -/
theorem iErr_set {μ : xM} {v : Int} (h : iErr μ) (hv : v ≠ 4) : iErr (wi (wi (wi μ 0 18 v) 260 0 0) 260 11 v) := by
  obtain ⟨h1, h2, h3⟩ := h
  refine ⟨?_, ?_, fun e => ?_⟩
  · simp [wi, h1]
  · simp [wi]
  · simp [wi] at e
    exact absurd e hv
