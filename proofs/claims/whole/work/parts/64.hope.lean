theorem xIn_q {q Z : Nat} (h : q ≤ Z) (hz : Z ≤ 34012224) : xIn (q : Int) := ⟨by omega, by omega⟩
theorem Inv_hop {μ ν : xM} (hi : Inv μ) (h : iOpen μ) (f : hopS μ ν) : Inv ν := by
  have hc := Inv.cache hi h
  obtain ⟨h1, h2, h3, _⟩ := hi
  have e : ∀ k, k ≠ 232 → k ≠ 234 → ν k = μ k := f.1
  refine ⟨iTape_a f.a h1, ?_, ⟨fun z => ?_, fun z => ?_, ?_⟩, Or.inl ⟨iOpen_a f.a h, ?_⟩⟩
  · unfold iErr at *
    rw [e 35 (by omega) (by omega), e 260 (by omega) (by omega), e 0 (by omega) (by omega)]; exact h2
  · rw [f.2.1 4 (by omega)] at z
    rw [e 233 (by omega) (by omega)]; exact h3.1 z
  · have := f.2.2.1 z
    rw [this.1]; exact h3.2.1 this.2
  · rw [e 236 (by omega) (by omega), e 30 (by omega) (by omega)]; exact h3.2.2
  · obtain ⟨c1, c2, c3, c4, c5, _⟩ := hc
    unfold iBest iRisen iLack iGain iSit at *
    refine ⟨?_, ?_, ?_, ?_, ?_, f.2.2.2⟩
    · unfold iBest; rw [e 211 (by omega) (by omega), e 215 (by omega) (by omega), e 263 (by omega) (by omega)]; exact c1
    · unfold iRisen; rw [e 216 (by omega) (by omega), e 270 (by omega) (by omega), e 263 (by omega) (by omega)]; exact c2
    · unfold iLack; rw [e 221 (by omega) (by omega), e 222 (by omega) (by omega), e 263 (by omega) (by omega)]; exact c3
    · unfold iGain; rw [e 231 (by omega) (by omega), e 263 (by omega) (by omega)]; exact c4
    · unfold iSit; rw [e 233 (by omega) (by omega), e 263 (by omega) (by omega)]; exact c5
theorem hope_m {μ : xM} {p b : Int} {P : Int → xM → Prop} (hi : Inv μ) (hb : b = 0 ∨ b = 1) (hP : ∀ r ν, tX11_hope p b ν (fun r' ω => xIl r' → xRan ω → ((r = r') ∧ (Inv ω))) → P r ν) : tX10_hope p b μ (fun r ν => xIl r → xRan ν → P r ν) := by
  have hK : ∀ a, a ≠ 4 → Inv (tr μ a) := fun a => Inv_tr hi
  rcases hi.os with h | h
  · have h14 := h.1
    have hw := h.w
    have hR := h.2.1
    have bK := hR.K
    have e5 := h.2.2.1.1 5 (by omega)
    have N := h.2.2.2.1.1
    obtain ⟨s, sg, sn, ss, st⟩ := N.nt
    have l0 := (sg.1.le 0 (by omega)).1
    have l1 := (sg.1.le 1 (by omega)).1
    have l2 := (sg.1.le 2 (by omega)).1
    by_cases hp : 1 ≤ p ∧ p ≤ 4
    · by_cases h5 : 1 ≤ μ 263 5
      · obtain ⟨k, rfl⟩ : ∃ k : Nat, p = k := ⟨p.toNat, by omega⟩
        have hk : k ≤ 4 := by omega
        have h4 := hope_4 hR hk (s.1 0) (s.1 1) (s.1 2)
        have w4 := wpow_4 hR hk
        have w1 := wpow_pos hR h5 k
        obtain ⟨X, hX⟩ : ∃ X : Nat, hopeF (μ 263) k (s.1 0) (s.1 1) (s.1 2) = X := ⟨(hopeF (μ 263) k (s.1 0) (s.1 1) (s.1 2)).toNat, by omega⟩
        obtain ⟨Y, hY⟩ : ∃ Y : Nat, wpow (μ 263) k = Y := ⟨(wpow (μ 263) k).toNat, by omega⟩
        have xX : X ≤ 34012224 := by omega
        have xY : Y ≤ 34012224 := by omega
        have y0 : 0 < Y := by omega
        have g0 : 0 < Nat.gcd X Y := Nat.gcd_pos_of_pos_right _ y0
        have a0 : μ (249 + 1) (0 : Int).toNat = s.1 0 := sn.1 0 (by omega)
        have a1 : μ (249 + 1) (1 : Int).toNat = s.1 1 := sn.1 1 (by omega)
        have a2 : μ (249 + 1) (2 : Int).toNat = s.1 2 := sn.1 2 (by omega)
        intro _ _ _
        refine k_open h (fun _ _ => ⟨fun _ => ⟨fun z => by omega, fun _ => ⟨fun _ => ⟨fun _ => ?_, fun z => absurd (show 1 ≤ μ 39 5 by omega) z⟩, fun z => by omega⟩⟩, fun z => absurd z (by decide)⟩)
        intro _ _
        refine s_at (fun _ _ _ _ => s_at (fun _ _ _ _ => s_at (fun _ _ _ _ => ?_) (fun z => absurd ⟨by decide, by decide⟩ z)) (fun z => absurd ⟨by decide, by decide⟩ z)) (fun z => absurd ⟨by decide, by decide⟩ z)
        rw [a0, a1, a2]
        refine s_hoped k 8 (by omega) hk _ _ _ μ _ hw (hi.cache h).2.2.2.2.2 l0 l1 l2 sg.1.vt (fun ν f _ _ _ _ => ?_)
        have v3 : ν 263 = μ 263 := f.1 263 (by omega) (by omega)
        have vo : iOpW ν := iOpW_a f.a hw
        refine s_weightOf vo hk (fun _ _ => ?_)
        rw [v3, hX, hY]
        refine s_common xX xY y0 (fun _ _ => ?_)
        have cl : ∀ Z : Nat, Z ≤ 34012224 → (b = 0 → Z = X) → (b = 1 → Z = Y) → (0 < ((Nat.gcd X Y : Nat) : Int)) ∧ xIn ((Z : Int).tdiv (Nat.gcd X Y : Nat)) ∧ tX10_granted ((Z : Int).tdiv (Nat.gcd X Y : Nat)) ν (fun r44 μ42 => xIn r44 → xRan μ42 → xIl r44 → xRan μ42 → P r44 μ42) := by
          intro Z zb z0 z1
          have dv : ∀ Z : Nat, (Z : Int).tdiv (Nat.gcd X Y : Nat) = ((Z / Nat.gcd X Y : Nat) : Int) := fun _ => rfl
          have dl : ∀ Z : Nat, Z / Nat.gcd X Y ≤ Z := fun Z => Nat.div_le_self _ _
          have dz := dl Z
          refine ⟨by omega, by rw [dv]; exact xIn_q dz zb, s_granted (fun _ _ _ _ => hP _ _ ?_)⟩
          obtain ⟨M, eM⟩ : ∃ M, M = wi (wi (wi ν 0 18 0) 260 0 0) 260 11 0 := ⟨_, rfl⟩
          have Mk : ∀ k, k ≠ 0 → k ≠ 260 → M k = ν k := fun k a b => by rw [eM]; funext j; rw [wi_cell b, wi_cell b, wi_cell a]
          have M3 : M 263 = μ 263 := (Mk 263 (by omega) (by omega)).trans v3
          have M5 : M 265 = μ 265 := (Mk 265 (by omega) (by omega)).trans (f.1 265 (by omega) (by omega))
          have n260 : ν 260 = μ 260 := f.1 260 (by omega) (by omega)
          have M14 : M 260 14 = 1 := by rw [eM]; show ν 260 14 = 1; rw [n260]; exact h14
          have Mo : iOpW M := iOpW_c (show M 260 14 = ν 260 14 by rw [M14, n260, h14]) (fun k hk => Mk k (by omega) (by omega)) vo
          intro _ _ _
          refine s_good ?_
          rw [← eM]
          intro _
          refine ⟨fun _ => s_within (fun _ _ _ _ => ⟨fun _ => ⟨fun _ => ?_, fun z => absurd (show μ 263 5 = 0 by rw [← M3]; exact z) (by omega)⟩, fun z => absurd z (by decide)⟩) (fun z => absurd hp z), fun z => absurd (M14.symm.trans z) (by decide)⟩
          refine up1 (n := 62500) (fun i ξ => ξ = fillM M 279 i.toNat (-1)) (by omega) (fillM_zero M 279 (-1)).symm ?_
          rintro i ξ K i0 i1 rfl _ hKK
          refine ⟨⟨by omega, by omega⟩, fun c => ?_, fun c => ⟨⟨i0, by omega⟩, wl fun _ => hKK _ (by omega) (by rw [fillM_succ, show (i + 1).toNat = i.toNat + 1 by omega])⟩⟩
          rw [show i.toNat = 62500 by omega]
          obtain ⟨F, eF⟩ : ∃ F, F = fillM M 279 62500 (-1) := ⟨_, rfl⟩
          have Fk : ∀ k, k ≠ 279 → F k = M k := fun k hk => by rw [eF]; funext j; simp [fillM, hk]
          have F3 : F 263 = μ 263 := (Fk 263 (by omega)).trans M3
          have Fm : iHM F := by
            intro a b c ha hb hc2 _ g2 hg2
            left
            rw [eF]
            simp only [fillM]
            rw [if_pos ⟨trivial, by unfold cdN; omega⟩]
          have Fo : iOpW F := iOpW_c (by rw [Fk 260 (by omega)]) (fun k hk => Fk k (by omega)) Mo
          rw [← eF]
          refine w_code (fun t ht => (sg.1.le t ht).1) (fun t ht => ?_) (fun _ _ => ?_)
          · rw [Fk 265 (by omega), M5]
            have := st t ht
            rw [Nat.zero_add] at this
            exact this
          · rw [cdN_cd]
            refine r_hopeOf k 8 (by omega) hk _ _ _ F _ Fo Fm l0 l1 l2 (by rw [F3]; exact sg.1.vt) (fun ω f2 _ _ => ?_)
            have W3 : ω 263 = μ 263 := (f2.1 263 (by omega)).trans F3
            have iv : Inv ω := by
              refine Inv_scr (a := 0) (Inv_hop hi h f) (fun j hj => ?_) (by decide)
              rw [f2.1 j (by rintro rfl; exact hj (by unfold scrK; omega)), Fk j (by rintro rfl; exact hj (by unfold scrK; omega)), eM]
              rfl
            rw [F3, hX]
            refine r_power W3 hR hk (fun _ _ => ?_)
            rw [hY]
            refine r_common xX xY (fun _ _ => ⟨fun q => ⟨by omega, ?_, fun _ _ => ⟨by rw [z0 q], iv⟩⟩, fun q => r_power W3 hR hk (fun _ _ => ⟨by omega, ?_, fun _ _ => ⟨by rw [z1 q, hY], iv⟩⟩)⟩)
            · rw [dv]; exact (xIn_q (dl X) xX).il
            · rw [hY, dv]; exact (xIn_q (dl Y) xY).il
        refine ⟨fun _ => ⟨fun q => cl X xX (fun _ => rfl) (fun z => by omega), fun q => cl Y xY (fun z => by omega) (fun _ => rfl)⟩, fun z => absurd (show 1 ≤ ((Nat.gcd X Y : Nat) : Int) by omega) z⟩
      · have ref : tX11_hope p b (wi μ 0 18 6) (fun r' ω => xIl r' → xRan ω → -1 = r' ∧ Inv ω) := by
          intro _ _ _
          exact s_good (fun _ => ⟨fun _ => s_within (fun _ _ _ _ => ⟨fun _ => ⟨fun z => absurd (show μ 263 5 = 0 by omega) z, fun _ => s_no (fun _ _ _ _ => ⟨rfl, K_no (hK 6 (by decide))⟩)⟩, fun z => absurd z (by decide)⟩) (fun z => absurd hp z), fun z => absurd (h14.symm.trans z) (by decide)⟩)
        intro _ _ _
        exact k_open h (fun _ _ => ⟨fun _ => ⟨fun z => absurd hp.1 (by omega), fun _ => ⟨fun _ => ⟨fun z => absurd (show 1 ≤ μ 39 5 from z) (by omega), fun _ => s_refused (fun _ _ _ _ => hP _ _ ref)⟩, fun z => absurd hp.2 z⟩⟩, fun z => absurd z (by decide)⟩)
    · have ref : tX11_hope p b (wi μ 0 18 2) (fun r' ω => xIl r' → xRan ω → -1 = r' ∧ Inv ω) := by
        intro _ _ _
        exact s_good (fun _ => ⟨fun _ => s_within (fun y1 y2 => absurd ⟨y1, y2⟩ hp) (fun _ _ _ => ⟨fun z => absurd z (by decide), fun _ => s_no (fun _ _ _ _ => ⟨rfl, K_no (hK 2 (by decide))⟩)⟩), fun z => absurd (h14.symm.trans z) (by decide)⟩)
      intro _ _ _
      exact k_open h (fun _ _ => ⟨fun _ => ⟨fun _ => s_refused (fun _ _ _ _ => hP _ _ ref), fun y => ⟨fun y2 => absurd ⟨by omega, y2⟩ hp, fun _ => s_refused (fun _ _ _ _ => hP _ _ ref)⟩⟩, fun z => absurd z (by decide)⟩)
  · have h14 := h.1
    have ref : tX11_hope p b (wi μ 0 18 1) (fun r' ω => xIl r' → xRan ω → -1 = r' ∧ Inv ω) := by
      intro _ _ _
      exact s_good (fun _ => ⟨fun z => absurd h14 z, fun _ => s_no (fun _ _ _ _ => ⟨rfl, K_no (hK 1 (by decide))⟩)⟩)
    intro _ _ _
    exact k_shut h (fun _ _ => ⟨fun z => absurd z (by decide), fun _ => s_refused (fun _ _ _ _ => hP _ _ ref)⟩)
/-- hope -/
theorem c_31 {sc : Int → Int} {i : Int} {μ : xM} (hi : Inv μ) : tl_31 sc i μ Inv := by
  by_cases hz : sc (i + 2) = 0
  · exact ⟨fun _ => hope_m hi (Or.inl rfl) (fun r ν m => ⟨fun _ => m, fun z => absurd hz z⟩), fun z => absurd hz z⟩
  · exact ⟨fun z => absurd z hz, fun _ => hope_m hi (Or.inr rfl) (fun r ν m => ⟨fun z => absurd z hz, fun _ => m⟩)⟩
