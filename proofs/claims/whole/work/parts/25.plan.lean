/-! WHAT IS KEPT: plans, futures -/
noncomputable def gb (R : Nat → Int) (w : Nat) : Bool := @decide (goodF R w) (Classical.propDecidable _)
theorem gb_iff {R : Nat → Int} {w : Nat} : gb R w = true ↔ goodF R w := by simp [gb]
def offL (P : Nat → Bool) (a : Nat) : List Nat := (List.range' a (24 - a)).filter P
def spreadT (f : List Nat → Nat → List (List Nat)) : List Nat → List (List Nat)
  | [] => []
  | p :: l => f (p :: l) p ++ spreadT f l
def spreadF : Nat → List Nat → List Nat → List (List Nat)
  | 0, _, pre => [pre]
  | n + 1, l, pre => spreadT (fun t p => spreadF n t (pre ++ [p])) l ++ [pre]
def needL (R : Nat → Int) (row : List Nat) (c : Int) : Int := (row.map (fun w => cntW R w c)).sum
def lenL (R : Nat → Int) (row : List Nat) : Int := (row.map (fun w => R (7 + w))).sum
def valL (R : Nat → Int) (row : List Nat) : Int := (row.map (fun w => R (175 + w))).sum
def fitF (R : Nat → Int) (H : Int → Int) (row : List Nat) : Prop := ∀ c : Int, 0 ≤ c → c < 26 → needL R row c ≤ H c
def fillF (R : Nat → Int) (H : Int → Int) (row : List Nat) : Prop := ∀ c : Int, 0 ≤ c → c < 26 → H c ≤ needL R row c
abbrev pS : Type := Int × Int × Int × Int × List Nat
def judge1 (R : Nat → Int) (N : Int) (s : pS) (row : List Nat) : pS :=
  if lenL R row > s.1 ∨ (lenL R row = s.1 ∧ valL R row > s.2.1) then (lenL R row, valL R row, max s.2.2.1 (valL R row), if lenL R row = N then min s.2.2.2.1 row.length else s.2.2.2.1, row)
  else (s.1, s.2.1, max s.2.2.1 (valL R row), if lenL R row = N then min s.2.2.2.1 row.length else s.2.2.2.1, s.2.2.2.2)
noncomputable def judgeF (R : Nat → Int) (H : Int → Int) (N : Int) (s : pS) (row : List Nat) : pS := @ite _ (fitF R H row) (Classical.propDecidable _) (judge1 R N s row) s
noncomputable def planF (R : Nat → Int) (H : Int → Int) (N : Int) (l : List Nat) : pS := (spreadF (R 0).toNat l []).foldl (judgeF R H N) (-1, -1, 0, 4, [])
abbrev lS : Type := Int × Int × List Nat
noncomputable def lackJ (R : Nat → Int) (H : Int → Int) (N : Int) (s : lS) (row : List Nat) : lS :=
  @ite _ (fillF R H row ∧ lenL R row - N ≤ s.1) (Classical.propDecidable _) (lenL R row - N - 1, lenL R row - N, row) s
noncomputable def lackF (R : Nat → Int) (H : Int → Int) (N : Int) (l : List Nat) : lS := (spreadF (R 0).toNat l []).foldl (lackJ R H N) (18, -1, [])
/-- the guests' letters, and one more -/
def haveF (R : Nat → Int) : Int → Int := cntG R (R 4).toNat
def have1 (R : Nat → Int) (x : Int) : Int → Int := fun c => haveF R c + if c = x then 1 else 0
/-! futures -/
def mxB (f : Nat → Int) (l : List Nat) (a : Int) : Int := l.foldl (fun m v => max m (f v)) a
noncomputable def upsBy (R : Nat → Int) (w : Nat) (x : Int) : List Nat := (upsF R w).filter (fun v => decide (byF R w v = x))
/-- the best of what can be done with a letter: f is what follows, p what it is worth -/
noncomputable def seatF (R : Nat → Int) (x p : Int) (f : Nat → Nat → Nat → Int) (a b c : Nat) : Int :=
  let m1 := mxB (fun v => p + f v b c) (upsBy R a x) (f a b c)
  let m2 := if 1 < R 0 then mxB (fun v => p + f a v c) (upsBy R b x) m1 else m1
  if 2 < R 0 then mxB (fun v => p + f a b v) (upsBy R c x) m2 else m2
noncomputable def mostF (R : Nat → Int) : Nat → Nat → Nat → Nat → Int
  | 0, _, _, _ => 0
  | n + 1, a, b, c => seatF R (R (295 + ((R 4).toNat - (n + 1)))) 1 (mostF R n) a b c
def wsum (R : Nat → Int) : Nat → Int
  | 0 => 0
  | n + 1 => wsum R n + R (309 + n)
def wpow (R : Nat → Int) : Nat → Int
  | 0 => 1
  | n + 1 => wpow R n * wsum R (R 5).toNat
noncomputable def hsum (R : Nat → Int) (p : Int) (f : Nat → Nat → Nat → Int) (a b c : Nat) : Nat → Int
  | 0 => 0
  | i + 1 => hsum R p f a b c i + R (309 + i) * seatF R (R (303 + i)) p f a b c
noncomputable def hopeF (R : Nat → Int) : Nat → Nat → Nat → Nat → Int
  | 0, _, _, _ => 0
  | k + 1, a, b, c => hsum R (wpow R k) (hopeF R k) a b c (R 5).toNat
def slotN (a b c : Nat) : Nat := c * (c + 1) * (c + 2) / 6 + b * (b + 1) / 2 + a
def nib (x : Int) (g : Int) : Int := xAnd (xUshr x (4 * g)) 15
def vtF (R : Nat → Int) (b c : Nat) : Prop := (R 0 < 2 → b = 24) ∧ (R 0 < 3 → c = 24)
/-! the kept answers -/
def iBest (μ : xM) : Prop := ¬ μ 211 0 = 0 → μ 211 1 = (planF (μ 263) (haveF (μ 263)) (μ 263 4) (offL (gb (μ 263)) 0)).1 ∧ μ 211 2 = (planF (μ 263) (haveF (μ 263)) (μ 263 4) (offL (gb (μ 263)) 0)).2.1
  ∧ μ 211 3 = (planF (μ 263) (haveF (μ 263)) (μ 263 4) (offL (gb (μ 263)) 0)).2.2.1 ∧ μ 211 4 = (planF (μ 263) (haveF (μ 263)) (μ 263 4) (offL (gb (μ 263)) 0)).2.2.2.1
  ∧ ∀ t : Nat, t < 3 → μ 215 t = ((planF (μ 263) (haveF (μ 263)) (μ 263 4) (offL (gb (μ 263)) 0)).2.2.2.2.getD t 24 : Nat)
def iRisen (μ : xM) : Prop := ¬ μ 216 0 = 0 → μ 216 1 = (planF (μ 263) (haveF (μ 263)) (μ 263 4) (offL (fun w => gb (μ 263) w && decide (μ 270 w ≤ 1)) 0)).1
def iLack (μ : xM) : Prop := ¬ μ 221 0 = 0 → μ 221 5 = (lackF (μ 263) (haveF (μ 263)) (μ 263 4) (offL (gb (μ 263)) 0)).2.1
  ∧ ∀ c : Nat, c < 26 → μ 222 c = haveF (μ 263) c - needL (μ 263) (lackF (μ 263) (haveF (μ 263)) (μ 263 4) (offL (gb (μ 263)) 0)).2.2 c
def iGain (μ : xM) : Prop := ∀ c : Nat, c < 26 → 0 ≤ μ 231 c → μ 231 c = (planF (μ 263) (have1 (μ 263) c) (μ 263 4 + 1) (offL (gb (μ 263)) 0)).1 - (planF (μ 263) (haveF (μ 263)) (μ 263 4) (offL (gb (μ 263)) 0)).1
def iSit (μ : xM) : Prop := ∀ a b c : Nat, a ≤ b → b ≤ c → c < 25 → vtF (μ 263) b c → ∀ g : Nat, (g : Int) < μ 263 4 → nib (μ 233 (slotN a b c)) g = 0 ∨ nib (μ 233 (slotN a b c)) g = mostF (μ 263) ((μ 263 4).toNat - g) a b c + 1
def iHop (μ : xM) : Prop := ∀ a b c : Nat, a ≤ b → b ≤ c → c < 25 → vtF (μ 263) b c → ∀ k : Nat, k < 4 → μ 234 (2925 * k + slotN a b c) = 0 ∨ μ 234 (2925 * k + slotN a b c) = hopeF (μ 263) (k + 1) a b c + 1
def iBase (μ : xM) : Prop := (μ 232 4 = 0 → ∀ j : Nat, j < 2925 → μ 233 j = 0) ∧ (μ 232 5 = 0 → ∀ j : Nat, j < 11700 → μ 234 j = 0) ∧ ((μ 236 5 = 243 ∧ μ 236 6 = 244) ∨ (μ 236 5 = 244 ∧ μ 236 6 = 243)) ∧ ∀ w : Nat, w < 24 → μ 30 w = 0 ∨ μ 30 w = 1
def iCache (μ : xM) : Prop := iBest μ ∧ iRisen μ ∧ iLack μ ∧ iGain μ ∧ iSit μ ∧ iHop μ
def Inv (μ : xM) : Prop := iTape μ ∧ iErr μ ∧ iBase μ ∧ ((iOpen μ ∧ iCache μ) ∨ iShut μ)
theorem iCache_c {μ ν : xM} (h : ∀ k, (211 ≤ k ∧ k < 235) ∨ k = 263 ∨ k = 270 → ν k = μ k) (hi : iCache μ) : iCache ν := by
  unfold iCache iBest iRisen iLack iGain iSit iHop at *
  rw [h 211 (by omega), h 215 (by omega), h 216 (by omega), h 221 (by omega), h 222 (by omega), h 231 (by omega), h 233 (by omega), h 234 (by omega), h 263 (by omega), h 270 (by omega)]
  exact hi
theorem iBase_c {μ ν : xM} (h : ∀ k, (232 ≤ k ∧ k < 235) ∨ k = 30 → ν k = μ k) (h5 : ν 236 5 = μ 236 5) (h6 : ν 236 6 = μ 236 6) (hi : iBase μ) : iBase ν := by
  unfold iBase at *
  rw [h 232 (by omega), h 233 (by omega), h 234 (by omega), h 30 (by omega), h5, h6]
  exact hi
/-- what a call that only reads leaves: all but scratch, and its trouble -/
def ro (μ ν : xM) (a : Int) : Prop := asame μ ν ∧ ν 35 1 = μ 35 1 ∧ ν 260 9 = μ 260 9 ∧ ν 0 18 = a ∧ ν 260 11 = a
theorem Inv_ro {μ ν : xM} {a : Int} (hi : Inv μ) (h : ro μ ν a) (ha : a ≠ 4) (hb : iBase ν) (hc : iOpen μ → iCache μ → iCache ν) : Inv ν := by
  obtain ⟨h1, h2, _, h4⟩ := hi
  obtain ⟨s, e1, e9, e18, e11⟩ := h
  refine ⟨iTape_a s h1, ⟨?_, ?_, fun z => absurd (e11.symm.trans z) ha⟩, hb, ?_⟩
  · rw [e1, e9]; exact h2.1
  · rw [e18, e11]
  · rcases h4 with q | q
    · exact Or.inl ⟨iOpen_a s q.1, hc q.1 q.2⟩
    · exact Or.inr (iShut_a s q)
theorem tr_cell {μ : xM} {a : Int} {k : Nat} (h : k ≠ 0) (h2 : k ≠ 260) : tr μ a k = μ k := by
  funext j
  simp [tr, wi, h, h2]
theorem Inv_tr {μ : xM} {a : Int} (hi : Inv μ) (ha : a ≠ 4) : Inv (tr μ a) := by
  refine Inv_ro hi ⟨tr_a μ a, rfl, rfl, rfl, rfl⟩ ha (iBase_c (fun k hk => tr_cell (by omega) (by omega)) rfl rfl hi.2.2.1) (fun _ q => iCache_c (fun k hk => tr_cell (by omega) (by omega)) q)
theorem Inv_th {μ : xM} (hi : Inv μ) : Inv (th μ) := by
  have s : asame μ (th μ) := asame.w (by decide)
  have f : ∀ k, k ≠ 260 → th μ k = μ k := fun k hk => by funext j; simp only [th, wi]; rw [if_neg (by omega)]
  obtain ⟨h1, h2, h3, h4⟩ := hi
  refine ⟨iTape_a s h1, h2, h3, ?_⟩
  rcases h4 with q | q
  · exact Or.inl ⟨iOpen_a s q.1, iCache_c (fun k hk => f k (by omega)) q.2⟩
  · exact Or.inr (iShut_a s q)
theorem Inv.os {μ : xM} (h : Inv μ) : iOpen μ ∨ iShut μ := by
  rcases h.2.2.2 with q | q
  · exact Or.inl q.1
  · exact Or.inr q
