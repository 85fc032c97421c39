/-! cells that are scratch wholly -/
def scrK (k : Nat) : Prop := k = 209 ∨ k = 210 ∨ (226 ≤ k ∧ k ≤ 230) ∨ (237 ≤ k ∧ k ≤ 248) ∨ k = 251 ∨ k = 252 ∨ k = 262 ∨ k = 264 ∨ 271 ≤ k
def sc1 (μ ν : xM) : Prop := ∀ k, ¬ scrK k → ν k = μ k
theorem sc1.rf (μ : xM) : sc1 μ μ := fun _ _ => rfl
theorem sc1.tt {μ ν ω : xM} (h : sc1 μ ν) (h2 : sc1 ν ω) : sc1 μ ω := fun k hk => (h2 k hk).trans (h k hk)
theorem scrK_a {k : Nat} (h : scrK k) (j : Nat) : ascr k j = true := by
  unfold scrK at h
  have : (209 ≤ k ∧ k ≤ 248) ∨ k = 251 ∨ k = 252 ∨ k = 262 ∨ k = 264 ∨ 271 ≤ k := by omega
  simp only [ascr, cscr, rscr, Bool.or_eq_true, Bool.and_eq_true, beq_iff_eq, decide_eq_true_eq]
  omega
theorem sc1.a {μ ν : xM} (h : sc1 μ ν) : asame μ ν := by
  intro k j hn
  by_cases q : scrK k
  · rw [scrK_a q j] at hn; exact absurd hn (by decide)
  · rw [h k q]
theorem sc1.w {μ ν : xM} (h : sc1 μ ν) {k j : Nat} {v : Int} (hk : scrK k) : sc1 μ (wi ν k j v) := by
  intro a ha
  rw [← h a ha]
  funext b
  exact wi_cell (by rintro rfl; exact ha hk)
theorem sc1.f {μ ν : xM} (h : sc1 μ ν) {k n : Nat} {v : Int} (hk : scrK k) : sc1 μ (fillM ν k n v) := by
  intro a ha
  rw [← h a ha]
  funext b
  simp only [fillM]
  rw [if_neg]
  rintro ⟨rfl, _⟩; exact ha hk
theorem iCache_d {μ ν : xM} (h1 : ν 211 = μ 211) (h2 : ν 215 = μ 215) (h3 : ν 216 = μ 216) (h4 : ν 221 = μ 221) (h5 : ν 222 = μ 222) (h6 : ν 231 = μ 231) (h7 : ν 233 = μ 233) (h8 : ν 234 = μ 234) (h9 : ν 263 = μ 263) (h10 : ν 270 = μ 270) (hi : iCache μ) : iCache ν := by
  unfold iCache iBest iRisen iLack iGain iSit iHop at *
  rw [h1, h2, h3, h4, h5, h6, h7, h8, h9, h10]
  exact hi
theorem Inv_scr {μ ω : xM} {a : Int} (hi : Inv μ) (h : sc1 (tr μ a) ω) (ha : a ≠ 4) : Inv ω := by
  have it := Inv_tr hi ha
  have f : ∀ k, ¬ scrK k → ω k = tr μ a k := h
  refine ⟨iTape_a h.a it.1, ?_, iBase_c (fun k hk => f k (by unfold scrK; omega)) (by rw [f 236 (by unfold scrK; omega)]) (by rw [f 236 (by unfold scrK; omega)]) it.2.2.1, ?_⟩
  · unfold iErr
    rw [f 35 (by unfold scrK; omega), f 260 (by unfold scrK; omega), f 0 (by unfold scrK; omega)]
    exact it.2.1
  · rcases it.2.2.2 with q | q
    · exact Or.inl ⟨iOpen_a h.a q.1, iCache_d (f 211 (by unfold scrK; omega)) (f 215 (by unfold scrK; omega)) (f 216 (by unfold scrK; omega)) (f 221 (by unfold scrK; omega)) (f 222 (by unfold scrK; omega)) (f 231 (by unfold scrK; omega)) (f 233 (by unfold scrK; omega)) (f 234 (by unfold scrK; omega)) (f 263 (by unfold scrK; omega)) (f 270 (by unfold scrK; omega)) q.2⟩
    · exact Or.inr (iShut_a h.a q)
/-- the usual way of a call that writes scratch: first the class's, then the reference's -/
theorem sc1.tr0 {μ ν : xM} (h : sc1 μ ν) (a : Int) : sc1 (tr μ a) (tr ν a) := by
  intro k hk
  have := h k hk
  funext j
  simp only [tr, wi, this]
/-! rows of guests -/
noncomputable def rowS (R : Nat → Int) (set : Int) : Nat → Option (Int × (Int → Int))
  | 0 => some (0, cntL R (R 315).toNat (R (7 + (R 315).toNat)).toNat)
  | g + 1 => (rowS R set g).bind (fun p => if xAnd (xShr set g) 1 = 1 then
      (if p.1 < R (7 + (R 315).toNat) then (if 1 ≤ p.2 (R (295 + g)) then some (p.1 + 1, fun c => p.2 c - if c = R (295 + g) then 1 else 0) else none)
       else if p.1 - R (7 + (R 315).toNat) + 1 < R 6 ∧ byF R (R (315 + (p.1 - R (7 + (R 315).toNat)).toNat)).toNat (R (315 + (p.1 - R (7 + (R 315).toNat) + 1).toNat)).toNat = R (295 + g) then some (p.1 + 1, p.2) else none)
      else some p)
theorem rowS_none {R : Nat → Int} {set : Int} {g : Nat} (h : rowS R set g = none) : ∀ m, g ≤ m → rowS R set m = none := by
  intro m hm
  induction m with
  | zero => rw [show 0 = g by omega]; exact h
  | succ m ih =>
    by_cases e : g = m + 1
    · rw [← e]; exact h
    · simp only [rowS]; rw [ih (by omega)]; rfl
theorem rowS_cnt {R : Nat → Int} {set : Int} : ∀ (g : Nat) (p : Int × (Int → Int)), rowS R set g = some p → p.1 = bcnt set g := by
  intro g
  induction g with
  | zero => intro p h; simp only [rowS, Option.some.injEq] at h; rw [← h]; rfl
  | succ g ih =>
    intro p h
    simp only [rowS] at h
    cases hq : rowS R set g with
    | none => rw [hq] at h; simp at h
    | some q =>
      rw [hq] at h
      simp only [Option.bind_some] at h
      have := ih q hq
      simp only [bcnt]
      split at h
      · rename_i hb
        rw [if_pos hb]
        split at h
        · split at h
          · simp only [Option.some.injEq] at h; rw [← h]; show q.1 + 1 = _; omega
          · simp at h
        · split at h
          · simp only [Option.some.injEq] at h; rw [← h]; show q.1 + 1 = _; omega
          · simp at h
      · rename_i hb
        rw [if_neg hb]
        simp only [Option.some.injEq] at h; rw [← h]; omega
theorem seen_len {R : Nat → Int} (hR : okR R) (h : ∀ i : Nat, (i : Int) < R 6 → okSeen R i) : ∀ i : Nat, (i : Int) < R 6 → R (7 + (R (315 + i)).toNat) = R (7 + (R 315).toNat) + i := by
  intro i
  induction i with
  | zero => intro _; show R (7 + (R 315).toNat) = _; omega
  | succ i ih =>
    intro hi
    have q := (h (i + 1) hi).2
    rcases q with q | q
    · omega
    · have g := (byF_ge q).2
      have b := hR.see (i := i) (by omega)
      have bW := hR.W
      rw [show i + 1 - 1 = i from rfl] at g
      have := ih (by omega)
      rcases g with g | g
      · omega
      · omega
/-! the class's -/
theorem glyphs_row {μ : xM} (h : iOpen μ) {w : Int} (hw : wordF (μ 263) w) {Q : Nat → xM → Prop} (hq : Q (43 + w.toNat) μ) : tX2_glyphsOf 39 w μ Q := by
  have b := h.2.1.W
  have w0 := hw.1
  have w1 := hw.2
  intro _ _
  exact k_word h (fun _ _ _ => ⟨fun z => absurd z (by decide), fun _ => ⟨⟨by omega, by omega⟩, hq⟩⟩) (fun z => absurd hw z)
theorem s_layOut {μ : xM} {w : Int} {Q : xM → Prop} (h : iOpen μ) (hw : wordF (μ 263) w) (hq : ∀ ν, (∀ k, k ≠ 248 → ν k = μ k) → (∀ c : Nat, c < 26 → ν 248 c = cntL (μ 263) w.toNat (μ 263 (7 + w.toNat)).toNat c) → Q ν) : tX6_layOut (43 + w.toNat) 6 μ Q := by
  have b := h.2.1.W
  have w0 := hw.1
  have w1 := hw.2
  have bl := h.2.1.len (w := w.toNat) (by omega)
  have gl := (h.2.2.1.2.1 w.toNat (by omega) (by omega)).2.2.2
  intro _
  refine s_fill (by omega) (fun _ => ?_)
  refine up1 (n := μ 263 (7 + w.toNat)) (fun i ν => (∀ k, k ≠ 248 → ν k = μ k) ∧ (∀ c : Nat, c < 26 → ν 248 c = cntL (μ 263) w.toNat i.toNat c ∧ 0 ≤ ν 248 c ∧ ν 248 c ≤ i)) (by omega) ⟨fun k hk => by funext j; simp [fillM, hk], fun c hc => by simp [fillM, hc, cntL]⟩ ?_
  rintro i ν K i0 i1 ⟨p1, p2⟩ _ hK
  have er : ν (43 + w.toNat) = μ (43 + w.toNat) := p1 _ (by omega)
  rw [er]
  have fin : i = μ 263 (7 + w.toNat) → Q ν := fun e => hq ν p1 (fun c hc => by rw [← e]; exact (p2 c hc).1)
  refine ⟨⟨by omega, by omega⟩, fun c => fin (by omega), fun c => ⟨⟨i0, by omega⟩, ?_⟩⟩
  have gi := gl i.toNat (by omega)
  rw [gi]
  by_cases e : i < μ 263 (7 + w.toNat)
  · rw [if_pos (by omega)]
    have bx := h.2.1.let (w := w.toNat) (i := i.toNat) (by omega) (by omega)
    have p2x := p2 (μ 263 (31 + 6 * w.toNat + i.toNat) - 97).toNat (by omega)
    refine ⟨fun z => by omega, fun _ => ⟨fun z => by omega, fun _ => ⟨⟨by omega, by omega⟩, ⟨by omega, by omega⟩, wl fun _ => hK _ e ⟨fun k hk => ?_, fun c hc => ?_⟩⟩⟩⟩
    · rw [← p1 k hk]; funext j; exact wi_cell hk
    · rw [show (i + 1).toNat = i.toNat + 1 by omega]
      simp only [cntL]
      have := p2 c hc
      by_cases q : c = (μ 263 (31 + 6 * w.toNat + i.toNat) - 97).toNat
      · subst q
        rw [wi_self, if_pos (by omega)]; omega
      · rw [wi_place q, if_neg (by omega)]; omega
  · rw [if_neg (by omega)]
    exact ⟨fun _ => fin (by omega), fun z => absurd (by decide) z⟩
theorem lay_43 : ∀ w : Nat, w < 24 → lay (43 + w) = (1, 6, []) := fun w hw => (isHouse_39.2.2.2.2.2.1 w (by omega))
theorem s_takes {μ : xM} {x : Int} {Q : Int → xM → Prop} (h0 : 0 ≤ x) (h1 : x < 26) (h2 : 1 ≤ μ 248 x.toNat → xIn (μ 248 x.toNat - 1) ∧ Q 1 (wi μ 248 x.toNat (μ 248 x.toNat - 1))) (h3 : ¬ 1 ≤ μ 248 x.toNat → Q 0 μ) : tX6_takes x μ Q := by
  intro _ _
  exact ⟨fun z => by omega, fun _ => ⟨fun z => by omega, fun _ => ⟨⟨h0, h1⟩, fun z => ⟨(h2 z).1, wl fun _ => (h2 z).2⟩, fun z => h3 z⟩⟩⟩
theorem s_grownX {μ : xM} {i : Int} {Q : Int → xM → Prop} (h : iOpen μ) (h0 : μ 263 6 ≤ i) (h1 : i < 100) (hq : Q (-1) μ) : tX6_grownBy i μ Q := by
  have bS := h.2.1.S
  have bW := h.2.1.W
  have e6 := h.2.2.1.1 6 (by omega)
  intro _ _
  have sx : ∀ (j : Int) (Q : Int → xM → Prop), (∀ r, Q r μ) → tX2_seenOf 39 j μ Q := by
    intro j Q hq _ _
    exact ⟨fun _ => hq _, fun _ => ⟨fun _ => hq _, fun _ => ⟨fun _ => hq _, fun _ => ⟨⟨by omega, by omega⟩, hq _⟩⟩⟩⟩
  have sy : ∀ (Q : Int → xM → Prop), Q (-1) μ → tX2_seenOf 39 i μ Q := by
    intro Q hq _ _
    exact ⟨fun _ => hq, fun _ => ⟨fun _ => hq, fun z => absurd (show μ 39 6 ≤ i by omega) z⟩⟩
  refine ⟨⟨by omega, by omega⟩, sx _ _ (fun r _ _ => sy _ (fun _ _ => ?_))⟩
  intro _ _ _
  exact s_kind (fun _ _ _ _ => ⟨fun z => absurd z (by decide), fun _ => s_spot (fun z => absurd z (by decide)) (fun _ _ _ => ⟨fun _ _ _ => hq, fun z => absurd z (by decide)⟩)⟩) (fun _ _ _ => ⟨fun _ _ _ => hq, fun z => absurd z (by decide)⟩)
theorem s_isRow {μ : xM} {set : Int} {Q : Int → xM → Prop} (h : iOpen μ) (hs : 1 ≤ μ 263 6) (h0 : 0 ≤ set) (h1 : set < 256)
    (hq : ∀ r ν, (∀ k, k ≠ 248 → ν k = μ k) → (r = 1 ∧ (rowS (μ 263) set (μ 263 4).toNat).isSome = true ∨ r = 0 ∧ rowS (μ 263) set (μ 263 4).toNat = none) → Q r ν) : tX6_isRow set μ Q := by
  have bN := h.2.1.N
  have bW := h.2.1.W
  have bS := h.2.1.S
  have s0 : 0 ≤ μ 263 315 ∧ μ 263 315 < μ 263 3 := h.2.1.see (i := 0) (by omega)
  have bl := h.2.1.len (w := (μ 263 315).toNat) (by omega)
  intro _ _
  refine k_seen h (by omega) (by omega) (fun _ _ => k_len h (fun _ _ _ => k_seen h (by omega) (by omega) (fun _ _ => glyphs_row h s0 (fun _ => ⟨⟨lay_43 _ (by show (μ 263 315).toNat < 24; omega), by show 43 + (μ 263 315).toNat < 281; omega⟩, ?_⟩))) (fun z => absurd s0 z))
  show tX6_layOut (43 + (μ 263 315).toNat) 6 μ _
  refine s_layOut h s0 (fun ν p1 p2 _ => ?_)
  refine up2b (n := μ 263 4) (fun g n ω => (∀ k, k ≠ 248 → ω k = μ k) ∧ ∃ L, rowS (μ 263) set g.toNat = some (n, L) ∧ 0 ≤ n ∧ n ≤ g ∧ ∀ c : Nat, c < 26 → ω 248 c = L c) (by omega) ⟨p1, _, rfl, by omega, by omega, p2⟩ ?_
  rintro g n ω K g0 g1 ⟨f1, L, r1, n0, n1, f2⟩ hr hK
  have hO : iOpen ω := iOpen_a (sc1.a (fun k hk => f1 k (by rintro rfl; exact hk (by unfold scrK; omega)))) h
  have e4 : ω 39 4 = μ 263 4 := by rw [f1 39 (by omega)]; exact h.2.2.1.1 4 (by omega)
  have e3 : ω 263 = μ 263 := f1 263 (by omega)
  have hL : ∀ c : Nat, c < 26 → xIn (L c) := fun c hc => by rw [← f2 c hc]; exact hr.i (by omega)
  have bad : g < μ 263 4 → rowS (μ 263) set (g.toNat + 1) = none → rowS (μ 263) set (μ 263 4).toNat = none := fun q z => rowS_none z _ (by omega)
  show (xIn g) ∧ _
  rw [e4]
  refine ⟨⟨by omega, by omega⟩, fun c => hq 1 ω f1 (Or.inl ⟨rfl, by rw [show (μ 263 4).toNat = g.toNat by omega, r1]; rfl⟩), fun c => ⟨fun d => hK _ _ (by omega) ⟨f1, L, ?_, n0, by omega, f2⟩, fun d => ?_⟩⟩
  · rw [show (g + 1).toNat = g.toNat + 1 by omega]
    simp only [rowS]
    rw [r1]
    simp only [Option.bind_some, Int.toNat_of_nonneg g0]
    rw [if_neg d]
  · have bx := h.2.1.fst (g := g.toNat) (by omega)
    have rs : ∀ z, rowS (μ 263) set (g.toNat + 1) = z ↔ (if n < μ 263 (7 + (μ 263 315).toNat) then (if 1 ≤ L (μ 263 (295 + g.toNat)) then some (n + 1, fun c => L c - if c = μ 263 (295 + g.toNat) then 1 else 0) else none)
       else if n - μ 263 (7 + (μ 263 315).toNat) + 1 < μ 263 6 ∧ byF (μ 263) (μ 263 (315 + (n - μ 263 (7 + (μ 263 315).toNat)).toNat)).toNat (μ 263 (315 + (n - μ 263 (7 + (μ 263 315).toNat) + 1).toNat)).toNat = μ 263 (295 + g.toNat) then some (n + 1, L) else none) = z := by
      intro z
      simp only [rowS]
      rw [r1]
      simp only [Option.bind_some, Int.toNat_of_nonneg g0]
      rw [if_pos d]
    refine k_first hO (fun _ _ _ _ => ?_) (fun z => absurd ⟨g0, by rw [e3]; omega⟩ z)
    rw [e3]
    show (xIn n) ∧ ((μ 263 (7 + (μ 263 315).toNat) ≤ n → _) ∧ (¬ μ 263 (7 + (μ 263 315).toNat) ≤ n → _))
    refine ⟨⟨by omega, by omega⟩, fun e => ⟨⟨by show -2147483648 ≤ n - μ 263 (7 + (μ 263 315).toNat) + 1; omega, by show n - μ 263 (7 + (μ 263 315).toNat) + 1 ≤ 2147483647; omega⟩, ?_⟩, fun e => ?_⟩
    · show tX6_grownBy (n - μ 263 (7 + (μ 263 315).toNat) + 1) ω _
      by_cases f : n - μ 263 (7 + (μ 263 315).toNat) + 1 < μ 263 6
      · refine s_grownBy hO (by omega) (by rw [e3]; exact f) (fun _ _ => ?_)
        rw [e3, show (n - μ 263 (7 + (μ 263 315).toNat) + 1).toNat - 1 = (n - μ 263 (7 + (μ 263 315).toNat)).toNat by omega]
        refine ⟨fun z => hq 0 ω f1 (Or.inr ⟨rfl, bad (by omega) ((rs _).2 ?_)⟩), fun z => hK _ _ (by omega) ⟨f1, L, ?_, by omega, by omega, f2⟩⟩
        · rw [if_neg (by omega), if_neg (fun y => z y.2)]
        · rw [show (g + 1).toNat = g.toNat + 1 by omega, rs, if_neg (by omega), if_pos ⟨f, z⟩]
      · refine s_grownX hO (by rw [e3]; omega) (by omega) (fun _ _ => ⟨fun z => hq 0 ω f1 (Or.inr ⟨rfl, bad (by omega) ((rs _).2 ?_)⟩), fun z => by omega⟩)
        rw [if_neg (by omega), if_neg (fun y => f y.1)]
    · have fx := f2 (μ 263 (295 + g.toNat)).toNat (by omega)
      rw [Int.toNat_of_nonneg bx.1] at fx
      refine s_takes bx.1 (by omega) (fun z => ⟨⟨by omega, by have := (hr.i (k := 248) (j := (μ 263 (295 + g.toNat)).toNat) (by omega)).2; omega⟩, fun _ _ => ⟨fun _ => hK _ _ (by omega) ⟨fun k hk => ?_, _, (by rw [show (g + 1).toNat = g.toNat + 1 by omega, rs, if_pos (by omega), if_pos (by omega)]), by omega, by omega, fun c hc => ?_⟩, fun z => absurd z (by decide)⟩⟩) (fun z _ _ => ⟨fun y => absurd y (by decide), fun _ => hq 0 ω f1 (Or.inr ⟨rfl, bad (by omega) ((rs _).2 ?_)⟩)⟩)
      · rw [← f1 k hk]; funext j; exact wi_cell hk
      · by_cases q : c = (μ 263 (295 + g.toNat)).toNat
        · subst q
          rw [wi_self, Int.toNat_of_nonneg bx.1, if_pos rfl, fx]
        · rw [wi_place q, if_neg (by omega), f2 c hc]; omega
      · rw [if_pos (by omega), if_neg (by omega)]
