/-! layGrows -/
def a0F (c : Nat → Int) : Nat → Int := fun u => if u = 24 then 0 else c u
theorem a0F_n {c : Nat → Int} {u : Nat} (h : u ≠ 24) : a0F c u = c u := by unfold a0F; rw [if_neg h]
theorem upI_c {a b a' b' : Nat → Int} {R : Nat → Int} {P : Nat → Prop} (hR : okR R) (h : upI a b R P) (hP : ∀ u, P u → u ≠ 24) (ha : ∀ u, u ≠ 24 → a' u = a u) (hb : ∀ u, u ≠ 24 → b' u = b u) : upI a' b' R P := by
  intro u du hu
  have ca : mxL (fun v => a' v + 1) (upsF R u) = mxL (fun v => a v + 1) (upsF R u) := foldl_c _ _ (fun x v hv => by show max x (a' v + 1) = max x (a v + 1); rw [ha v (ups_ln hR hv).2.2])
  have cb : setL b' (upsF R u) = setL b (upsF R u) := foldl_c _ _ (fun x v hv => by show xOr x (xShl 1 (b' v)) = xOr x (xShl 1 (b v)); rw [hb v (ups_ln hR hv).2.2])
  rw [ca, cb, ha u (hP u hu), hb u (hP u hu)]
  exact h u du hu
theorem a0_mx {c : Nat → Int} {R : Nat → Int} (hR : okR R) (u : Nat) : mxL (fun v => a0F c v + 1) (upsF R u) = mxL (fun v => c v + 1) (upsF R u) := foldl_c _ _ (fun x v hv => by show max x (a0F c v + 1) = max x (c v + 1); rw [a0F_n (ups_ln hR hv).2.2])
def nim24 (b : Nat → Int) (R : Nat → Int) : Prop := b 24 = mexF (setL b (upsF R 24)) ∧ 0 ≤ b 24 ∧ b 24 ≤ 6
def onRow (ν : xM) (R : Nat → Int) : Prop := ∀ w v : Nat, w < 25 → v < 24 → ν 267 (24 * w + v) = byF R w v
theorem r_rise {μ : xM} {R : Nat → Int} {n v : Int} {J249 : Int → xM → Prop} (e : μ 263 = R) (hR : okR R) (hb : onRow μ R) (n0 : 1 ≤ n) (n6 : n ≤ 6) (v0 : 0 ≤ v) (v1 : v < R 3) (hn : R (7 + v.toNat) = n) (hr : xRan μ)
    (hq : ∀ ν, (∀ k, k ≠ 270 → ν k = μ k) → (∀ u, u ≠ v.toNat → ν 270 u = μ 270 u) → ν 270 v.toNat = mnL (μ 270) n (downsF R v.toNat) → J249 (v + 1) ν) :
    xLoop1 0 (wi μ 270 v.toNat n) (fun J284 l3_30 μ31 =>
  (xIn l3_30) ∧ ((((μ31 263 3) ≤ l3_30 → J249 (v + 1) μ31) ∧
  (¬ (μ31 263 3) ≤ l3_30 → (0 ≤ ((24 * l3_30) + v) ∧ ((24 * l3_30) + v) < 600) ∧ ((((μ31 267 (((24 * l3_30) + v).toNat)) < 0 → J284 (l3_30 + 1) μ31) ∧
  (¬ (μ31 267 (((24 * l3_30) + v).toNat)) < 0 → (0 ≤ l3_30 ∧ l3_30 < 24) ∧ ((0 ≤ v ∧ v < 24) ∧ ((((μ31 270 v.toNat) ≤ (μ31 270 l3_30.toNat) → J284 (l3_30 + 1) μ31) ∧
  (¬ (μ31 270 v.toNat) ≤ (μ31 270 l3_30.toNat) → ∀ μ45 : xM, μ45 = wi μ31 270 v.toNat (μ31 270 l3_30.toNat) → xRan μ45 → (J284 (l3_30 + 1) μ45)))))))))))) := by
  have b := hR.W
  refine up1 (n := R 3) (fun w ν => (∀ k, k ≠ 270 → ν k = μ k) ∧ (∀ u, u ≠ v.toNat → ν 270 u = μ 270 u) ∧ ν 270 v.toNat = mnL (μ 270) n (dnL R v.toNat w.toNat)) (by omega) ⟨fun k hk => by funext j; exact wi_cell hk, fun u hu => wi_place hu, wi_self _ _ _ _⟩ ?_
  rintro w ν K w0 w1 ⟨f1, f2, f3⟩ _ hK
  have e3 : ν 263 = R := (f1 263 (by omega)).trans e
  have e7 : ν 267 = μ 267 := f1 267 (by omega)
  rw [e3, e7]
  refine ⟨⟨by omega, by omega⟩, fun c => hq ν f1 f2 (by rw [f3, show w.toNat = (R 3).toNat by omega]; exact (dn_out hR (v := v.toNat) (μ 270) n).symm), fun c => ⟨⟨by omega, by omega⟩, ?_⟩⟩
  have eb : μ 267 ((24 * w + v).toNat) = byF R w.toNat v.toNat := by
    rw [← hb w.toNat v.toNat (by omega) (by omega)]
    congr 1; omega
  rw [eb]
  have nw : (w + 1).toNat = w.toNat + 1 := by omega
  refine ⟨fun d => hK _ (by omega) ⟨f1, f2, by rw [f3, nw, dnL_n (by omega)]⟩, fun d => ⟨⟨w0, by omega⟩, ⟨v0, by omega⟩, ?_⟩⟩
  have ne : w.toNat ≠ v.toNat := by
    intro q
    have g := (byF_ge (R := R) (w := w.toNat) (v := v.toNat) (by omega)).2
    rw [q] at g
    rcases g with g | g <;> omega
  have ew := f2 w.toNat ne
  have st : mnL (μ 270) n (dnL R v.toNat (w + 1).toNat) = min (mnL (μ 270) n (dnL R v.toNat w.toNat)) (μ 270 w.toNat) := by
    rw [nw, dnL_y (by omega), mnL_snoc, if_neg (by omega)]
  rw [ew]
  refine ⟨fun f => hK _ (by omega) ⟨f1, f2, by rw [st, f3]; omega⟩, fun f => wl fun _ => hK _ (by omega) ⟨fun k hk => by rw [← f1 k hk]; funext j; exact wi_cell hk, fun u hu => by rw [wi_place hu]; exact f2 u hu, by rw [wi_self, st]; omega⟩⟩
theorem r_layGrows {μ : xM} {R : Nat → Int} {Q : xM → Prop} (e : μ 263 = R) (hR : okR R) (hq : ∀ ν, (∀ k, ¬ in267 k → ν k = μ k) → rGrow ν R → Q ν) : tX11_layGrows μ Q := by
  have bW := hR.W
  intro _
  refine up1 (n := 25) (fun w ν => (∀ k, ¬ in267 k → ν k = μ k) ∧ ∀ w' v' : Nat, w' < 25 → v' < 24 → (w' : Int) < w → ν 267 (24 * w' + v') = byF R w' v') (by omega) ⟨fun _ _ => rfl, fun w' v' _ _ z => by omega⟩ ?_
  rintro w ν K w0 w1 ⟨f1, f2⟩ _ hK
  refine ⟨⟨by omega, by omega⟩, fun c => ?_, fun c => ?_⟩
  · have on : onRow ν R := fun w' v' a b => f2 w' v' a b (by omega)
    refine dn1 (n := -1) (fun n ω => (∀ k, ¬ in267 k → ω k = μ k) ∧ onRow ω R ∧ upI (a0F (ω 268)) (ω 269) R (fun u => u ≠ 24 ∧ n < lnF R u) ∧ (n < 0 → nim24 (ω 269) R)) (by omega) ⟨f1, on, fun u du hu => by have := lnF_rng hR du; omega, fun z => by omega⟩ ?_
    rintro n ω K2 n0 n1 ⟨g1, g2, g3, g4⟩ _ hK2
    refine ⟨⟨by omega, by omega⟩, fun d => ?_, fun d => ?_⟩
    · refine up1 (n := 7) (fun n ξ => (∀ k, ¬ in267 k → ξ k = μ k) ∧ onRow ξ R ∧ ξ 268 = ω 268 ∧ ξ 269 = ω 269 ∧ dnI (ξ 270) R (fun u => R (7 + u) < n)) (by omega) ⟨g1, g2, rfl, rfl, fun u du hu => by have := hR.len du; omega⟩ ?_
      rintro m ξ K3 m0 m1 ⟨h1, h2, h3, h4, h5⟩ _ hK3
      refine ⟨⟨by omega, by omega⟩, fun q => hq ξ h1 ⟨h2, ?_, ?_, fun v hv => h5 v hv (by have := hR.len hv; omega)⟩, fun q => ?_⟩
      · rw [h3]
        intro w hw
        have r := lnF_rng hR (Or.inl hw)
        have w24 : w ≠ 24 := by omega
        have := (g3 w (Or.inl hw) ⟨w24, by omega⟩).1
        rw [a0F_n w24, a0_mx hR] at this
        exact this
      · rw [h4]
        intro w hw
        by_cases w24 : w = 24
        · subst w24; exact g4 (by omega)
        · have r := lnF_rng hR (show domF R w from hw)
          have := g3 w hw ⟨w24, by omega⟩
          exact ⟨this.2.1, this.2.2.2.2.1, by omega⟩
      · refine up1 (n := R 3) (fun v ζ => (∀ k, k ≠ 270 → ζ k = ξ k) ∧ dnI (ζ 270) R (fun u => R (7 + u) < m ∨ (R (7 + u) = m ∧ (u : Int) < v))) (by omega) ⟨fun _ _ => rfl, fun u du hu => h5 u du (by omega)⟩ ?_
        rintro v ζ K4 v0 v1 ⟨i1, i2⟩ hr hK4
        have e3 : ζ 263 = R := ((i1 263 (by omega)).trans (h1 263 (by unfold in267; omega))).trans e
        have on3 : onRow ζ R := fun w' v' a b => by rw [i1 267 (by omega)]; exact h2 w' v' a b
        rw [e3, show (7 + v).toNat = 7 + v.toNat by omega]
        refine ⟨⟨by omega, by omega⟩, fun c => hK3 _ (by omega) ⟨fun k hk => (i1 k (by unfold in267 at hk; omega)).trans (h1 k hk), on3, (i1 268 (by omega)).trans h3, (i1 269 (by omega)).trans h4, fun u du hu => i2 u du (by omega)⟩, fun c => ⟨⟨by omega, by omega⟩, ⟨by omega, by omega⟩, fun f => ⟨⟨v0, by omega⟩, wl fun _ => r_rise e3 hR on3 m0 (by omega) v0 (by omega) f hr (fun η j1 j2 j3 => hK4 _ (by omega) ⟨fun k hk => (j1 k hk).trans (i1 k hk), ?_⟩)⟩, fun f => hK4 _ (by omega) ⟨i1, fun u du hu => i2 u du ?_⟩⟩⟩
        · have pu := dnI_put (a := ζ 270) (a' := η 270) (n := m) (w := v.toNat) i2 (fun u _ q => by omega) (fun _ => f) j2 (fun _ => j3)
          refine fun u du hu => pu u du ?_
          by_cases q : u = v.toNat
          · exact Or.inr q
          · left; omega
        · by_cases q : u = v.toNat
          · rw [q] at hu ⊢; omega
          · omega
    · refine up1 (n := 25) (fun w ζ => (∀ k, k ≠ 268 → k ≠ 269 → ζ k = ω k) ∧ upI (a0F (ζ 268)) (ζ 269) R (fun u => u ≠ 24 ∧ (n < lnF R u ∨ (lnF R u = n ∧ (u : Int) < w))) ∧ (24 < w → n = 0 → nim24 (ζ 269) R)) (by omega) ⟨fun _ _ _ => rfl, fun u du hu => g3 u du ⟨hu.1, by omega⟩, fun z => by omega⟩ ?_
      rintro w ζ K3 w0 w1 ⟨i1, i2, i3⟩ hr hK3
      have e3 : ζ 263 = R := ((i1 263 (by omega) (by omega)).trans (g1 263 (by unfold in267; omega))).trans e
      have on3 : onRow ζ R := fun w' v' a b => by rw [i1 267 (by omega) (by omega)]; exact g2 w' v' a b
      have nw : (w + 1).toNat = w.toNat + 1 := by omega
      have upv : domF R w.toNat → lnF R w.toNat = n → ∀ v ∈ upsF R w.toNat, 0 ≤ ζ 268 v ∧ ζ 268 v + 1 ≤ 6 - n ∧ 0 ≤ ζ 269 v ∧ ζ 269 v < 6 - n := by
        intro dw hn v hv
        have q := ups_ln hR hv
        have i := i2 v (Or.inl q.1) ⟨q.2.2, Or.inl (by omega)⟩
        rw [a0F_n q.2.2] at i
        omega
      have skip : w < 25 → (∀ u, domF R u → u ≠ 24 → lnF R u = n → u ≠ w.toNat) → (w = 24 → n ≠ 0) → K3 (w + 1) ζ := by
        intro lt q q2
        refine hK3 _ lt ⟨i1, fun u du hu => i2 u du ⟨hu.1, ?_⟩, fun z z2 => by omega⟩
        have := fun z => q u du hu.1 z
        omega
      have b89 : w ≤ 24 → domF R w.toNat → (w ≠ 24 → lnF R w.toNat = n) → tX11_layGrows_b89 n w ζ Q K2 K3 := by
        intro le dw hn _
        refine ⟨⟨by omega, by omega⟩, fun q => r_look e3 hR on3 w0 le dw (hn q) (upv dw (hn q)) (fun η j1 j2 j3 j4 => hK3 _ (by omega) ⟨fun k q1 q2 => (j1 k q1 q2).trans (i1 k q1 q2), ?_, fun z => by omega⟩), fun q => ⟨⟨by omega, by omega⟩, fun q2 => ?_, fun q2 => skip (by omega) (fun u _ _ _ => by omega) (fun _ => by omega)⟩⟩
        · have pu := upI_put (a := a0F (ζ 268)) (b := ζ 269) (a' := a0F (η 268)) (b' := η 269) (P := fun u => u ≠ 24 ∧ (n < lnF R u ∨ (lnF R u = n ∧ (u : Int) < w)) ) (n := n) (w := w.toNat) hR i2 (fun u du q => ⟨by rintro rfl; unfold lnF at q; simp at q; omega, Or.inl q⟩) (fun u _ q => by omega) (fun _ => hn q) (fun u hu => ?_) (fun u hu => (j2 u hu).2) (by rw [a0F_n (by omega), j4 q, a0_mx hR]) j3
          · refine fun u du hu => pu u du ?_
            by_cases q3 : u = w.toNat
            · exact Or.inr q3
            · left; exact ⟨hu.1, by omega⟩
          · unfold a0F
            split
            · rfl
            · exact (j2 u hu).1
        · have hn0 : n = 0 := by omega
          have w24 : w.toNat = 24 := by omega
          have l24 : lnF R w.toNat = n := by rw [w24, hn0]; rfl
          refine r_look e3 hR on3 w0 le dw l24 (upv dw l24) (fun η j1 j2 j3 j4 => hK3 _ (by omega) ⟨fun k q1 q2 => (j1 k q1 q2).trans (i1 k q1 q2), ?_, fun _ _ => ?_⟩)
          · have := upI_c (a := a0F (ζ 268)) (b := ζ 269) (a' := a0F (η 268)) (b' := η 269) hR i2 (fun u q => q.1) (fun u hu => by rw [a0F_n hu, a0F_n hu]; exact (j2 u (by omega)).1) (fun u hu => (j2 u (by omega)).2)
            exact fun u du hu => this u du ⟨hu.1, by have : (u : Int) < 25 := by { rcases du with q5 | q5 <;> omega }; omega⟩
          · have uv := upv dw l24
            rw [w24] at uv j3 j2
            have sl := setL_lt (c := ζ 269) (m := 6) (by omega) (by omega) (upsF R 24) (fun v hv => ⟨(uv v hv).2.2.1, by have := (uv v hv).2.2.2; omega⟩)
            have ml := mexF_le (m := 6) (by omega) (by omega) sl.1 sl.2
            have cb : setL (η 269) (upsF R 24) = setL (ζ 269) (upsF R 24) := foldl_c _ _ (fun x v hv => by show xOr x (xShl 1 (η 269 v)) = xOr x (xShl 1 (ζ 269 v)); rw [(j2 v (ups_ln hR hv).2.2).2])
            refine ⟨by rw [cb]; exact j3, by rw [j3]; exact ml.1, by rw [j3]; exact ml.2⟩
      rw [e3, show (7 + w).toNat = 7 + w.toNat by omega]
      refine ⟨⟨by omega, by omega⟩, fun c => hK2 _ (by omega) ⟨fun k hk => (i1 k (by unfold in267 at hk; omega) (by unfold in267 at hk; omega)).trans (g1 k hk), on3, fun u du hu => i2 u du ⟨hu.1, by have : (u : Int) < 25 := by { rcases du with q | q <;> omega }; omega⟩, fun z => i3 (by omega) (by omega)⟩, fun c => ⟨fun q => b89 (by omega) (Or.inr (by omega)) (fun z => absurd q z), fun q => ⟨fun f => skip (by omega) (fun u du u24 _ z => ?_) (fun z => absurd z q), fun f => ⟨⟨by omega, by omega⟩, ⟨by omega, by omega⟩, fun g => skip (by omega) (fun u du u24 hl z => ?_) (fun z => absurd z q), fun g => b89 (by omega) (Or.inl (by omega)) (fun _ => ?_)⟩⟩⟩⟩
      · rcases du with du | du <;> omega
      · subst z
        unfold lnF at hl; rw [if_neg u24] at hl; exact g hl
      · unfold lnF; rw [if_neg (by omega)]; exact g
  · refine up1 (n := 24) (fun v ω => (∀ k, ¬ in267 k → ω k = μ k) ∧ ∀ w' v' : Nat, w' < 25 → v' < 24 → ((w' : Int) < w ∨ ((w' : Int) = w ∧ (v' : Int) < v)) → ω 267 (24 * w' + v') = byF R w' v') (by omega) ⟨f1, fun w' v' a b z => f2 w' v' a b (by omega)⟩ ?_
    rintro v ω K2 v0 v1 ⟨g1, g2⟩ _ hK2
    have e3 : ω 263 = R := (g1 263 (by unfold in267; omega)).trans e
    refine ⟨⟨by omega, by omega⟩, fun d => hK _ (by omega) ⟨g1, fun w' v' a b z => g2 w' v' a b (by omega)⟩, fun d => ⟨⟨by omega, by omega⟩, r_growth e3 hR w0 (by omega) v0 (fun _ _ => ⟨⟨by omega, by omega⟩, wl fun _ => hK2 _ (by omega) ⟨fun k hk => ?_, fun w' v' a b z => ?_⟩⟩)⟩⟩
    · rw [← g1 k hk]; funext j; exact wi_cell (by unfold in267 at hk; omega)
    · by_cases q : (24 * w' + v') = (24 * w + v).toNat
      · rw [q, wi_self]
        have : w' = w.toNat ∧ v' = v.toNat := by omega
        rw [this.1, this.2]
      · rw [wi_place q]
        exact g2 w' v' a b (by omega)
/-! both -/
theorem iGrow_of {μ : xM} (hR : okR (μ 263)) (hc : cGrow μ (μ 263)) (hr : rGrow μ (μ 263)) : iGrow μ := by
  obtain ⟨c1, c2, c3, c4, c5⟩ := hc
  obtain ⟨r1, r2, r3, r4⟩ := hr
  have u0 : ∀ w, w < 25 → upL (μ 263) w (upTo 25 0 w) = upsF (μ 263) w := fun w hw => by unfold upTo; rw [if_pos hw]; rfl
  have d0 : ∀ v, dnL (μ 263) v (dnTo 25 0 v) = downsF (μ 263) v := fun v => by unfold dnTo; rw [if_neg (by omega)]; rfl
  refine ⟨c1, fun w v a b => ⟨r1 w v a b, c2.1 w v a b (by omega)⟩, fun w hw => ?_, fun v hv => ?_, fun w hw => ⟨isChain_u hR c3 r2 w hw, isRise_u hR c5 r4 w hw⟩, fun w hw => isNim_u hR c4 r3 w hw, r2, r3, r4⟩
  · have := c2.2.1 w hw
    rw [u0 w hw] at this
    exact ⟨this.1, fun i hi => ⟨this.2.1 i hi, this.2.2 i hi⟩⟩
  · have := c2.2.2 v hv
    rw [d0 v] at this
    exact ⟨this.1, fun i hi => this.2 i hi⟩
