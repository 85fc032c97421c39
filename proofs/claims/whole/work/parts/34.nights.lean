/-! led, stand, mark, back -/
theorem c_42 {sc : Int → Int} {i : Int} {μ : xM} (hi : Inv μ) : tl_42 sc i μ Inv := by
  obtain ⟨w, ew⟩ : ∃ w, w = sc (i + 1) := ⟨_, rfl⟩
  unfold tl_42 tl_42r
  rw [← ew]
  have hth : ∀ (μ' : xM) (a : Int), (∀ k j, ¬ (k = 280 ∧ j = 0) → ¬ (k = 260 ∧ j = 0) → μ' k j = μ k j) → Inv μ' := by
    intro μ' _ f
    have s : asame μ μ' := by
      intro k j hn
      refine f k j ?_ ?_
      · rintro ⟨rfl, rfl⟩; exact absurd hn (by decide)
      · rintro ⟨rfl, rfl⟩; exact absurd hn (by decide)
    have g : ∀ k, k ≠ 260 → k ≠ 280 → μ' k = μ k := fun k hk hk2 => by funext j; exact f k j (by omega) (by omega)
    obtain ⟨h1, h2, h3, h4⟩ := hi
    refine ⟨iTape_a s h1, ?_, iBase_c (fun k hk => g k (by omega) (by omega)) (f 236 5 (by omega) (by omega)) (f 236 6 (by omega) (by omega)) h3, ?_⟩
    · unfold iErr at *
      rw [f 35 1 (by omega) (by omega), f 260 9 (by omega) (by omega), f 0 18 (by omega) (by omega), f 260 11 (by omega) (by omega), f 35 2 (by omega) (by omega), f 260 10 (by omega) (by omega)]
      exact h2
    · rcases h4 with q | q
      · exact Or.inl ⟨iOpen_a s q.1, iCache_c (fun k hk => g k (by omega) (by omega)) q.2⟩
      · exact Or.inr (iShut_a s q)
  have inv1 : Inv (wi μ 260 0 1) := hth _ 0 (fun k j _ h2 => by simp [wi, h2])
  have inv0 : ∀ a b, Inv (wi (wi μ 280 0 a) 260 0 b) := fun a b => hth _ 0 (fun k j h1 h2 => by simp [wi, h1, h2])
  rcases hi.os with h | h
  · -- the same loop on both sides
    obtain ⟨_, _, n2, n3, _⟩ := h.2.2.2.1.1
    have bN := h.2.1.N
    have h14 := h.1
    have hb : ∀ g : Int, 0 ≤ g → g < μ 249 1 → (xAnd (xShr (μ 249 2) g) 1 = 1 ↔ ¬ xAnd (xShr (μ 265 5) g) 1 = 1) := by
      intro g g0 g1
      have q := b_bit n2.2.1 (show μ 249 1 ≤ 8 by omega) n3.1 n3.2.1 g0 g1
      rw [← n3.2.2] at q
      exact q
    have e4 : μ 265 4 = μ 249 1 := n2.1.symm
    -- the reference from (n, g) on answers as the class's does
    have ref : ∀ (out : Bool) (ω : xM), (∀ k, k ≠ 280 → ω k = μ k) → ∀ r : Int, (r < 0 → True) →
        (∀ (n g : Int) , True) := fun _ _ _ _ _ _ _ => trivial
    intro _ _
    refine rd2b (n := μ 249 1) (fun g n => 0 ≤ n ∧ n ≤ g ∧ (∀ (ω : xM) (Q : Int → xM → Prop), (∀ k, k ≠ 280 → ω k = μ k) → xLoop2 n g ω (fun J4 l2_1 l3_2 μ3 =>
  (((μ3 260 14) = 0 → ∀ μ7 : xM, μ7 = wi μ3 260 0 1 → xRan μ7 → (Q 0 μ7)) ∧
  (¬ (μ3 260 14) = 0 → (xIn l3_2) ∧ ((((μ3 265 4) ≤ l3_2 → ∀ μ13 : xM, μ13 = wi μ3 260 0 1 → xRan μ13 → (Q 0 μ13)) ∧
  (¬ (μ3 265 4) ≤ l3_2 → (((xAnd (xShr (μ3 265 5) l3_2) 1) ≠ 1 → (xIn l2_1) ∧ (((l2_1 ≠ w → J4 (l2_1 + 1) (l3_2 + 1) μ3) ∧
  (l2_1 = w → ∀ μ20 : xM, μ20 = wi μ3 260 0 0 → xRan μ20 → (Q l3_2 μ20))))) ∧
  ((xAnd (xShr (μ3 265 5) l3_2) 1) = 1 → J4 l2_1 (l3_2 + 1) μ3)))))))) → tX11_led w ω Q)) n2.2.1 ⟨by omega, by omega, fun ω Q _ hq => fun _ _ => hq⟩ ?_
    intro g n K g0 g1 hP hK
    obtain ⟨p0, p1, pr⟩ := hP
    refine ⟨⟨by omega, by omega⟩, fun c => ?_, fun c => ⟨fun d => ?_, fun d => ⟨⟨by omega, by omega⟩, fun e => ?_, fun e => ?_⟩⟩⟩
    · intro _ _
      refine ⟨fun _ => ?_, fun q => absurd q (by decide)⟩
      refine pr μ _ (fun _ _ => rfl) ?_
      refine rd2b (n := g) (fun g' n' => g' = g) (by omega) rfl ?_
      rintro g' n' K' _ _ rfl _
      refine ⟨fun z => absurd (h14.symm.trans z) (by decide), fun _ => ⟨⟨by omega, by omega⟩, fun _ => wl fun _ _ _ _ _ _ => ⟨rfl, fun z => absurd z (by decide), inv1⟩, fun z => absurd (show μ 265 4 ≤ g' by omega) z⟩⟩
    · refine hK n (by omega) ⟨p0, by omega, fun ω Q hω hq => pr ω Q hω ?_⟩
      obtain ⟨I, ⟨m, hm⟩, hI⟩ := hq
      refine ⟨fun k a b ν => (a = n ∧ b = g ∧ ν = ω ∧ k = m + 1) ∨ I k a b ν, ⟨m + 1, Or.inl ⟨rfl, rfl, rfl, rfl⟩⟩, ?_⟩
      rintro k a b ν (⟨rfl, rfl, rfl, rfl⟩ | hk) hr
      · have e1 : ν 265 = μ 265 := hω 265 (by omega)
        have e2 : ν 260 = μ 260 := hω 260 (by omega)
        rw [e1, e2]
        refine ⟨fun z => absurd (h14.symm.trans z) (by decide), fun _ => ⟨⟨by omega, by omega⟩, fun z => by omega, fun _ => ⟨fun z => absurd ((hb b g0 (by omega)).2 z) d, fun _ => ⟨m, by omega, Or.inr hm⟩⟩⟩⟩
      · have := hI k a b ν hk hr
        have mono : ∀ a' b' μ', (∃ n', n' < k ∧ I n' a' b' μ') → ∃ n', n' < k ∧ ((a' = n ∧ b' = g ∧ μ' = ω ∧ n' = m + 1) ∨ I n' a' b' μ') := fun a' b' μ' ⟨n', q1, q2⟩ => ⟨n', q1, Or.inr q2⟩
        refine ⟨this.1, fun z => ⟨(this.2 z).1, (this.2 z).2.1, fun z2 => ⟨fun z3 => ⟨(((this.2 z).2.2 z2).1 z3).1, fun z4 => mono _ _ _ ((((this.2 z).2.2 z2).1 z3).2.1 z4), (((this.2 z).2.2 z2).1 z3).2.2⟩, fun z3 => mono _ _ _ (((this.2 z).2.2 z2).2 z3)⟩⟩⟩
    · refine hK (n + 1) (by omega) ⟨by omega, by omega, fun ω Q hω hq => pr ω Q hω ?_⟩
      obtain ⟨I, ⟨m, hm⟩, hI⟩ := hq
      refine ⟨fun k a b ν => (a = n ∧ b = g ∧ ν = ω ∧ k = m + 1) ∨ I k a b ν, ⟨m + 1, Or.inl ⟨rfl, rfl, rfl, rfl⟩⟩, ?_⟩
      rintro k a b ν (⟨rfl, rfl, rfl, rfl⟩ | hk) hr
      · have e1 : ν 265 = μ 265 := hω 265 (by omega)
        have e2 : ν 260 = μ 260 := hω 260 (by omega)
        rw [e1, e2]
        refine ⟨fun z => absurd (h14.symm.trans z) (by decide), fun _ => ⟨⟨by omega, by omega⟩, fun z => by omega, fun _ => ⟨fun z => ⟨⟨by omega, by omega⟩, fun _ => ⟨m, by omega, Or.inr hm⟩, fun z => absurd z e⟩, fun z => absurd z ((hb b g0 (by omega)).1 d)⟩⟩⟩
      · have := hI k a b ν hk hr
        have mono : ∀ a' b' μ', (∃ n', n' < k ∧ I n' a' b' μ') → ∃ n', n' < k ∧ ((a' = n ∧ b' = g ∧ μ' = ω ∧ n' = m + 1) ∨ I n' a' b' μ') := fun a' b' μ' ⟨n', q1, q2⟩ => ⟨n', q1, Or.inr q2⟩
        refine ⟨this.1, fun z => ⟨(this.2 z).1, (this.2 z).2.1, fun z2 => ⟨fun z3 => ⟨(((this.2 z).2.2 z2).1 z3).1, fun z4 => mono _ _ _ ((((this.2 z).2.2 z2).1 z3).2.1 z4), (((this.2 z).2.2 z2).1 z3).2.2⟩, fun z3 => mono _ _ _ (((this.2 z).2.2 z2).2 z3)⟩⟩⟩
    · intro _ _
      refine ⟨fun q => by omega, fun _ _ => wl fun _ => ?_⟩
      refine pr _ _ (fun k hk => by funext j; simp [wi, hk]) ?_
      refine rd2b (n := g) (fun g' n' => g' = g ∧ n' = n) (by omega) ⟨rfl, rfl⟩ ?_
      rintro g' n' K' _ _ ⟨rfl, rfl⟩ _
      refine ⟨fun z => absurd (h14.symm.trans z) (by decide), fun _ => ⟨⟨by omega, by omega⟩, fun z => absurd (show μ 249 1 ≤ g' by rw [← e4]; exact z) c, fun z => ⟨fun z => ⟨⟨by omega, by omega⟩, fun z => absurd e z, fun z => wl fun _ _ _ _ _ _ => ⟨rfl, fun _ => rfl, inv0 _ _⟩⟩, fun z => absurd z ((hb g' g0 (by omega)).1 d)⟩⟩⟩
  · have h1 := h.2.2.2.1
    have h14 := h.1
    intro _ _
    refine rd2b (n := 0) (fun g n => g = 0) (by omega) rfl ?_
    rintro g n K _ _ rfl _
    refine ⟨⟨by omega, by omega⟩, fun c _ _ => ⟨fun _ => ?_, fun q => absurd q (by decide)⟩, fun c => absurd (show μ 249 1 ≤ 0 by omega) c⟩
    intro _ _
    refine rd2b (n := 0) (fun g n => g = 0) (by omega) rfl ?_
    rintro g n K _ _ rfl _
    refine ⟨fun _ => wl fun _ _ _ _ _ _ => ⟨rfl, fun z => absurd z (by decide), inv1⟩, fun z => absurd h14 z⟩
