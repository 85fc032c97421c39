/-! the class's surveys: letters taken and given back -/
theorem wv {A : xM} {P : xM → Prop} (h : xRan A → P A) : ∀ ν : xM, ν = A → xRan ν → P ν := wl h
def vlF (R : Nat → Int) (w : Nat) : Int := if w = 24 then 0 else R (175 + w)
theorem domF_le {R : Nat → Int} (hR : okR R) {w : Nat} (hw : domF R w) : w ≤ 24 := by
  have := hR.W
  rcases hw with q | q <;> omega
theorem w_glyphs {μ : xM} {w : Nat} (h : iOpW μ) (hw : domF (μ 263) w) {Q : Nat → xM → Prop} (hq : Q (43 + w) μ) : tX2_glyphsOf 39 w μ Q := by
  have b := h.2.1.W
  have wl := domF_le h.2.1 hw
  intro _ _
  refine w_word h (fun q _ _ => ⟨fun z => absurd z (by decide), fun _ => ⟨⟨by omega, by omega⟩, ?_⟩⟩) (fun q _ _ => ⟨fun _ => ?_, fun z => absurd z (by decide)⟩)
  · rw [Int.toNat_natCast]; exact hq
  · have : w = 24 := hw.resolve_left (fun z => q ⟨by omega, z⟩)
    rw [this] at hq; exact hq
theorem glyph_at {μ : xM} {w i : Nat} (h : iOpW μ) (hw : domF (μ 263) w) (hi : i < 6) : μ (43 + w) i = if (i : Int) < lnF (μ 263) w then μ 263 (31 + 6 * w + i) - 97 else -1 := by
  have b := h.2.1.W
  rcases hw with q | q
  · have := (h.2.2.1.2.1 w (by omega) q).2.2.2 i hi
    unfold lnF
    rw [if_neg (by omega : ¬ w = 24)]
    exact this
  · subst q
    unfold lnF
    rw [if_pos rfl, if_neg (by omega)]
    exact h.2.2.1.2.2.1 i hi
theorem w_vl {μ : xM} {w : Nat} {Q : Int → xM → Prop} (h : iOpW μ) (hw : domF (μ 263) w) (hq : Q (vlF (μ 263) w) μ) : tX2_valueOf 39 w μ Q := by
  have b := h.2.1.W
  refine w_val h (fun q => ?_) (fun q => ?_)
  · rw [Int.toNat_natCast]
    unfold vlF at hq
    rw [if_neg (by have := q.2; omega)] at hq; exact hq
  · have : w = 24 := hw.resolve_left (fun z => q ⟨by omega, z⟩)
    unfold vlF at hq
    rw [if_pos this] at hq; exact hq
theorem vlF_rng {R : Nat → Int} (hR : okR R) {w : Nat} (hw : domF R w) : 0 ≤ vlF R w ∧ vlF R w ≤ 99 := by
  unfold vlF
  split
  · omega
  · have := hR.val (w := w) (hw.resolve_right (by assumption))
    omega
theorem cntW_ln {R : Nat → Int} (w : Nat) (c : Int) : cntW R w c = cntL R w (lnF R w).toNat c := by
  unfold cntW lnF
  split
  · rfl
  · rfl
def tkS (o : Nat) (μ ω : xM) : Prop := (∀ k, k ≠ o → k ≠ o + 1 → ω k = μ k) ∧ (∀ j, j ≠ 14 → j ≠ 15 → j ≠ 17 → ω o j = μ o j)
theorem tk_o {o : Nat} {μ ω : xM} (ho : 211 ≤ o ∧ o ≤ 226) (hi : iOpW μ) (h : ∀ k, k ≠ o → k ≠ o + 1 → ω k = μ k) : iOpW ω := iOpW_c (by rw [h 260 (by omega) (by omega)]) (fun k hk => h k (by omega) (by omega)) hi
theorem lay_g {w : Nat} (h : w ≤ 24) : lay (43 + w) = (1, 6, []) ∧ 43 + w < 281 := ⟨isHouse_39.2.2.2.2.2.1 w (by omega), by omega⟩
theorem s_take {μ : xM} {o w : Nat} {H nd : Int → Int} {Q : xM → Prop} (ho : 211 ≤ o ∧ o ≤ 226) (h : iOpW μ) (hw : domF (μ 263) w) (hH : ∀ c : Nat, c < 26 → 0 ≤ H c ∧ H c ≤ 100) (hn : ∀ c : Nat, c < 26 → 0 ≤ nd c ∧ nd c ≤ 100) (h1 : ∀ c : Nat, c < 26 → μ (o + 1) c = H c - nd c) (h14 : -1000 ≤ μ o 14 ∧ μ o 14 ≤ 1000) (h15 : μ o 15 = ovS H nd) (h17 : -10000 ≤ μ o 17 ∧ μ o 17 ≤ 10000)
    (hq : ∀ ω, tkS o μ ω → (∀ c : Nat, c < 26 → ω (o + 1) c = H c - (nd c + cntW (μ 263) w c)) → ω o 14 = μ o 14 + lnF (μ 263) w → ω o 15 = ovS H (fun c => nd c + cntW (μ 263) w c) → ω o 17 = μ o 17 + vlF (μ 263) w → Q ω) : tX9_take o w μ Q := by
  have hR := h.2.1
  have bW := hR.W
  have wl := domF_le hR hw
  have ln := lnF_rng hR hw
  have vl := vlF_rng hR hw
  intro _ _
  refine w_glyphs h hw (fun _ => ⟨lay_g wl, ?_⟩)
  refine up1 (n := lnF (μ 263) w) (fun i ξ => (∀ k, k ≠ o → k ≠ o + 1 → ξ k = μ k) ∧ (∀ j, j ≠ 14 → j ≠ 15 → ξ o j = μ o j) ∧ (∀ c : Nat, c < 26 → ξ (o + 1) c = H c - (nd c + cntL (μ 263) w i.toNat c)) ∧ ξ o 14 = μ o 14 + i ∧ ξ o 15 = ovS H (fun c => nd c + cntL (μ 263) w i.toNat c)) (by omega) ⟨fun _ _ _ => rfl, fun _ _ _ => rfl, fun c hc => by rw [h1 c hc]; simp [cntL], by omega, by rw [h15]; exact (ovS_c (fun c hc => by simp [cntL])).symm⟩ ?_
  rintro i ξ K i0 i1 ⟨k1, k2, k3', k4, k5⟩ _ hK
  have o1 := tk_o ho h k1
  have e3 : ξ 263 = μ 263 := k1 263 (by omega) (by omega)
  have fin : i = lnF (μ 263) w → tX2_valueOf 39 w ξ (fun r μ' => xIn r → xRan μ' → xIn (ξ o 17 + r) ∧ ∀ ω : xM, ω = wi μ' o 17 (ξ o 17 + r) → xRan ω → Q ω) := by
    intro ei
    refine w_vl o1 (by rw [e3]; exact hw) (fun _ _ => ?_)
    rw [e3, k2 17 (by omega) (by omega)]
    refine ⟨⟨by omega, by omega⟩, wv fun _ => hq _ ⟨fun k a b => ?_, fun j a b c => ?_⟩ (fun c hc => ?_) ?_ ?_ ?_⟩
    · rw [← k1 k a b]; funext j; exact wi_cell a
    · rw [wi_place c]; exact k2 j a b
    · rw [wi_cell (by omega), k3' c hc, cntW_ln, ei]
    · rw [wi_place (by omega), k4, ei]
    · rw [wi_place (by omega), k5, ei]
      exact ovS_c (fun c hc => by rw [cntW_ln])
    · rw [wi_self]
  refine ⟨⟨by omega, by omega⟩, fun d => fin (by omega), fun d => ⟨⟨i0, by omega⟩, ?_⟩⟩
  have gi := glyph_at (i := i.toNat) h hw (by omega)
  rw [k1 (43 + w) (by omega) (by omega), gi]
  by_cases e : i < lnF (μ 263) w
  · rw [if_pos (by omega)]
    have w24 : w ≠ 24 := by rintro rfl; simp [lnF] at e; omega
    have ww : (w : Int) < μ 263 3 := hw.resolve_right w24
    have eln : lnF (μ 263) w = μ 263 (7 + w) := by unfold lnF; rw [if_neg w24]
    have bx := hR.let (w := w) (i := i.toNat) ww (by omega)
    obtain ⟨x, ex⟩ : ∃ x : Nat, μ 263 (31 + 6 * w + i.toNat) - 97 = x := ⟨(μ 263 (31 + 6 * w + i.toNat) - 97).toNat, by omega⟩
    have x26 : x < 26 := by omega
    have ndr : ∀ c : Nat, c < 26 → 0 ≤ nd c + cntL (μ 263) w i.toNat c ∧ nd c + cntL (μ 263) w i.toNat c ≤ 110 := fun c hc => by
      have := hn c hc
      have := cntL_rng (μ 263) w c i.toNat
      omega
    have lx := k3' x x26
    have nx := ndr x x26
    have hx := hH x x26
    have ob := ovS_bd (H := H) (nd := fun c => nd c + cntL (μ 263) w i.toNat c) (d := 110) (fun c hc => by have := ndr c hc; have := hH c hc; omega) (by omega)
    have on := ovS_nn (H := H) (nd := fun c => nd c + cntL (μ 263) w i.toNat c)
    have up := ovS_up (H := H) (nd := fun c => nd c + cntL (μ 263) w i.toNat c) (nd' := fun c => nd c + cntL (μ 263) w (i + 1).toNat c) x26 (by
      show nd x + cntL (μ 263) w (i + 1).toNat x = nd x + cntL (μ 263) w i.toNat x + 1
      rw [show (i + 1).toNat = i.toNat + 1 by omega]
      simp only [cntL]
      rw [if_pos (by omega)]; omega) (fun c hc => by
      show nd c + cntL (μ 263) w (i + 1).toNat c = nd c + cntL (μ 263) w i.toNat c
      rw [show (i + 1).toNat = i.toNat + 1 by omega]
      simp only [cntL]
      rw [if_neg (by omega)]; omega)
    have b52 : ∀ s2 : Int, s2 = (if H x - (nd x + cntL (μ 263) w i.toNat x) ≤ 0 then 1 else 0) → tX9_take_b52 o w (43 + w) i (ξ o 15) s2 ξ Q K := by
      intro s2 hs _
      have s01 : 0 ≤ s2 ∧ s2 ≤ 1 := by rw [hs]; split <;> omega
      have eg : wi ξ o 15 (ξ o 15 + s2) (43 + w) i.toNat = x := by
        rw [wi_cell (by omega), k1 (43 + w) (by omega) (by omega), gi, if_pos (by omega), ex]
      refine ⟨⟨by omega, by omega⟩, wv fun _ => ?_⟩
      rw [eg, Int.toNat_natCast]
      have el : wi ξ o 15 (ξ o 15 + s2) (o + 1) x = ξ (o + 1) x := wi_cell (by omega)
      have e14 : ∀ A, wi (wi ξ o 15 (ξ o 15 + s2)) (o + 1) x A o 14 = ξ o 14 := fun A => by rw [wi_cell (by omega), wi_place (by omega)]
      rw [el]
      refine ⟨⟨i0, by omega⟩, ⟨by omega, by omega⟩, ⟨by omega, by omega⟩, wv fun _ => ?_⟩
      rw [e14]
      refine ⟨⟨by omega, by omega⟩, wv fun _ => hK _ e ⟨fun k a b => ?_, fun j a b => ?_, fun c hc => ?_, ?_, ?_⟩⟩
      · rw [← k1 k a b]; funext j; rw [wi_cell a, wi_cell b, wi_cell a]
      · rw [wi_place a, wi_cell (by omega), wi_place b]; exact k2 j a b
      · rw [wi_cell (by omega), show (i + 1).toNat = i.toNat + 1 by omega]
        have kc := k3' c hc
        simp only [cntL]
        by_cases q : c = x
        · subst q; rw [wi_self, if_pos (by omega)]; omega
        · rw [wi_place q, wi_cell (by omega), if_neg (by omega)]; omega
      · rw [wi_self, k4]; omega
      · rw [wi_place (by omega), wi_cell (by omega), wi_self, up, k5, hs]
    rw [ex]
    refine ⟨fun z => by omega, fun _ => ⟨fun z => by omega, fun _ => ⟨⟨by omega, by omega⟩, ?_⟩⟩⟩
    rw [Int.toNat_natCast, lx]
    exact ⟨fun z => b52 1 (by rw [if_pos (by omega)]), fun z => b52 0 (by rw [if_neg (by omega)])⟩
  · rw [if_neg (by omega)]
    exact ⟨fun _ => fin (by omega), fun z => absurd (by decide) z⟩
theorem s_give {μ : xM} {o w : Nat} {H nd : Int → Int} {Q : xM → Prop} (ho : 211 ≤ o ∧ o ≤ 226) (h : iOpW μ) (hw : domF (μ 263) w) (hH : ∀ c : Nat, c < 26 → 0 ≤ H c ∧ H c ≤ 100) (hn : ∀ c : Nat, c < 26 → 0 ≤ nd c ∧ nd c ≤ 100) (h1 : ∀ c : Nat, c < 26 → μ (o + 1) c = H c - (nd c + cntW (μ 263) w c)) (h14 : -1000 ≤ μ o 14 ∧ μ o 14 ≤ 1000) (h15 : μ o 15 = ovS H (fun c => nd c + cntW (μ 263) w c)) (h17 : -10000 ≤ μ o 17 ∧ μ o 17 ≤ 10000)
    (hq : ∀ ω, tkS o μ ω → (∀ c : Nat, c < 26 → ω (o + 1) c = H c - nd c) → ω o 14 = μ o 14 - lnF (μ 263) w → ω o 15 = ovS H nd → ω o 17 = μ o 17 - vlF (μ 263) w → Q ω) : tX9_giveBack o w μ Q := by
  have hR := h.2.1
  have bW := hR.W
  have wl := domF_le hR hw
  have ln := lnF_rng hR hw
  have vl := vlF_rng hR hw
  have cW : ∀ c : Int, cntW (μ 263) w c = cntL (μ 263) w (lnF (μ 263) w).toNat c := cntW_ln w
  intro _ _
  refine w_glyphs h hw (fun _ => ⟨lay_g wl, ?_⟩)
  refine up1 (n := lnF (μ 263) w) (fun i ξ => (∀ k, k ≠ o → k ≠ o + 1 → ξ k = μ k) ∧ (∀ j, j ≠ 14 → j ≠ 15 → ξ o j = μ o j) ∧ (∀ c : Nat, c < 26 → ξ (o + 1) c = H c - (nd c + cntW (μ 263) w c - cntL (μ 263) w i.toNat c)) ∧ ξ o 14 = μ o 14 - i ∧ ξ o 15 = ovS H (fun c => nd c + cntW (μ 263) w c - cntL (μ 263) w i.toNat c)) (by omega) ⟨fun _ _ _ => rfl, fun _ _ _ => rfl, fun c hc => by rw [h1 c hc]; simp [cntL], by omega, by rw [h15]; exact (ovS_c (fun c hc => by simp [cntL])).symm⟩ ?_
  rintro i ξ K i0 i1 ⟨k1, k2, k3', k4, k5⟩ _ hK
  have o1 := tk_o ho h k1
  have e3 : ξ 263 = μ 263 := k1 263 (by omega) (by omega)
  have fin : i = lnF (μ 263) w → tX2_valueOf 39 w ξ (fun r μ' => xIn r → xRan μ' → xIn (ξ o 17 - r) ∧ ∀ ω : xM, ω = wi μ' o 17 (ξ o 17 - r) → xRan ω → Q ω) := by
    intro ei
    refine w_vl o1 (by rw [e3]; exact hw) (fun _ _ => ?_)
    rw [e3, k2 17 (by omega) (by omega)]
    refine ⟨⟨by omega, by omega⟩, wv fun _ => hq _ ⟨fun k a b => ?_, fun j a b c => ?_⟩ (fun c hc => ?_) ?_ ?_ ?_⟩
    · rw [← k1 k a b]; funext j; exact wi_cell a
    · rw [wi_place c]; exact k2 j a b
    · rw [wi_cell (by omega), k3' c hc, cW, ei]; omega
    · rw [wi_place (by omega), k4, ei]
    · rw [wi_place (by omega), k5, ei]
      exact ovS_c (fun c hc => by rw [cW]; omega)
    · rw [wi_self]
  refine ⟨⟨by omega, by omega⟩, fun d => fin (by omega), fun d => ⟨⟨i0, by omega⟩, ?_⟩⟩
  have gi := glyph_at (i := i.toNat) h hw (by omega)
  have er : ∀ A B, (wi ξ (o + 1) A B) (43 + w) i.toNat = ξ (43 + w) i.toNat := fun A B => wi_cell (by omega)
  rw [k1 (43 + w) (by omega) (by omega), gi]
  by_cases e : i < lnF (μ 263) w
  · rw [if_pos (by omega)]
    have w24 : w ≠ 24 := by rintro rfl; simp [lnF] at e; omega
    have ww : (w : Int) < μ 263 3 := hw.resolve_right w24
    have eln : lnF (μ 263) w = μ 263 (7 + w) := by unfold lnF; rw [if_neg w24]
    have bx := hR.let (w := w) (i := i.toNat) ww (by omega)
    obtain ⟨x, ex⟩ : ∃ x : Nat, μ 263 (31 + 6 * w + i.toNat) - 97 = x := ⟨(μ 263 (31 + 6 * w + i.toNat) - 97).toNat, by omega⟩
    have x26 : x < 26 := by omega
    have cb : ∀ c : Int, 0 ≤ cntW (μ 263) w c ∧ cntW (μ 263) w c ≤ 6 := cntW_rng hR hw
    have ndr : ∀ c : Nat, c < 26 → -10 ≤ nd c + cntW (μ 263) w c - cntL (μ 263) w i.toNat c ∧ nd c + cntW (μ 263) w c - cntL (μ 263) w i.toNat c ≤ 110 := fun c hc => by
      have := hn c hc
      have := cb c
      have := cntL_rng (μ 263) w c i.toNat
      omega
    have lx := k3' x x26
    have nx := ndr x x26
    have hx := hH x x26
    have ob := ovS_bd (H := H) (nd := fun c => nd c + cntW (μ 263) w c - cntL (μ 263) w i.toNat c) (d := 110) (fun c hc => by have := ndr c hc; have := hH c hc; omega) (by omega)
    have on := ovS_nn (H := H) (nd := fun c => nd c + cntW (μ 263) w c - cntL (μ 263) w i.toNat c)
    have up := ovS_up (H := H) (nd' := fun c => nd c + cntW (μ 263) w c - cntL (μ 263) w i.toNat c) (nd := fun c => nd c + cntW (μ 263) w c - cntL (μ 263) w (i + 1).toNat c) x26 (by
      show nd x + cntW (μ 263) w x - cntL (μ 263) w i.toNat x = nd x + cntW (μ 263) w x - cntL (μ 263) w (i + 1).toNat x + 1
      rw [show (i + 1).toNat = i.toNat + 1 by omega]
      simp only [cntL]
      rw [if_pos (by omega)]; omega) (fun c hc => by
      show nd c + cntW (μ 263) w c - cntL (μ 263) w i.toNat c = nd c + cntW (μ 263) w c - cntL (μ 263) w (i + 1).toNat c
      rw [show (i + 1).toNat = i.toNat + 1 by omega]
      simp only [cntL]
      rw [if_neg (by omega)]; omega)
    have ecx : cntL (μ 263) w (i + 1).toNat x = cntL (μ 263) w i.toNat x + 1 := by
      rw [show (i + 1).toNat = i.toNat + 1 by omega]
      simp only [cntL]
      rw [if_pos (by omega)]
    have eg : ξ (43 + w) i.toNat = x := by rw [k1 (43 + w) (by omega) (by omega), gi, if_pos (by omega), ex]
    rw [ex]
    refine ⟨fun z => by omega, fun _ => ⟨fun z => by omega, fun _ => ⟨⟨by omega, by omega⟩, ?_⟩⟩⟩
    rw [Int.toNat_natCast]
    refine ⟨⟨by omega, by omega⟩, wv fun _ => ?_⟩
    rw [er, eg, Int.toNat_natCast, wi_self]
    have e15 : wi ξ (o + 1) x (ξ (o + 1) x + 1) o 15 = ξ o 15 := wi_cell (by omega)
    have e14 : ∀ A, wi (wi ξ (o + 1) x (ξ (o + 1) x + 1)) o 15 A o 14 = ξ o 14 := fun A => by rw [wi_place (by omega), wi_cell (by omega)]
    rw [e15]
    have go : ∀ A : Int, A = ovS H (fun c => nd c + cntW (μ 263) w c - cntL (μ 263) w (i + 1).toNat c) → K (i + 1) (wi (wi (wi ξ (o + 1) x (ξ (o + 1) x + 1)) o 15 A) o 14 (ξ o 14 - 1)) := by
      intro A hA
      refine hK _ e ⟨fun k a b => ?_, fun j a b => ?_, fun c hc => ?_, ?_, ?_⟩
      · rw [← k1 k a b]; funext j; rw [wi_cell a, wi_cell a, wi_cell b]
      · rw [wi_place a, wi_place b, wi_cell (by omega)]; exact k2 j a b
      · rw [wi_cell (by omega), wi_cell (by omega)]
        have kc := k3' c hc
        by_cases q : c = x
        · subst q; rw [wi_self, ecx]; omega
        · rw [wi_place q, kc, show (i + 1).toNat = i.toNat + 1 by omega]
          simp only [cntL]
          rw [if_neg (by omega)]; omega
      · rw [wi_self, k4]; omega
      · rw [wi_place (by omega), wi_self, hA]
    rw [ecx] at up
    refine ⟨⟨by omega, by omega⟩, fun z => ⟨⟨by omega, by omega⟩, wv fun _ => ?_⟩, fun z => ⟨⟨by omega, by omega⟩, wv fun _ => ?_⟩⟩
    · rw [e14]
      refine ⟨⟨by omega, by omega⟩, wv fun _ => go _ ?_⟩
      rw [if_pos (by omega)] at up; omega
    · rw [e14]
      refine ⟨⟨by omega, by omega⟩, wv fun _ => go _ ?_⟩
      rw [if_neg (by omega)] at up; omega
  · rw [if_neg (by omega)]
    exact ⟨fun _ => fin (by omega), fun z => absurd (by decide) z⟩
