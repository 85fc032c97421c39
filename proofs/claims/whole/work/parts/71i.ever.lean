noncomputable def EV (R C : Nat → Int) : Int := (planF R (haveF R) (R 4) (offL (offP R C 1) 0)).1
def rsS (μ ν : xM) : Prop := (∀ k, k < 216 ∨ 221 ≤ k → ν k = μ k) ∧ ν 216 1 = EV (μ 263) (μ 270)
theorem Inv_risen {μ ν : xM} (hi : Inv μ) (h : iOpen μ) (b : rsS μ ν) : Inv ν := by
  obtain ⟨c1, c2, c3, c4, _⟩ := Inv.cache hi h
  have e : ∀ k, k < 216 ∨ 221 ≤ k → ν k = μ k := b.1
  refine Inv_keep hi h (fun k hk => e k (by omega)) ⟨?_, ?_, ?_, ?_⟩
  · unfold iBest at *
    rw [e 211 (by omega), e 215 (by omega), e 263 (by omega)]; exact c1
  · unfold iRisen
    rw [e 263 (by omega), e 270 (by omega)]
    exact fun _ => b.2
  · unfold iLack at *
    rw [e 221 (by omega), e 222 (by omega), e 263 (by omega)]; exact c3
  · unfold iGain at *
    rw [e 231 (by omega), e 263 (by omega)]; exact c4
theorem rs_a {μ ν : xM} (b : rsS μ ν) : asame μ ν := by
  intro k j hn
  by_cases q : k < 216 ∨ 221 ≤ k
  · rw [b.1 k q]
  · have : ascr k j = true := by
      have h1 : 209 ≤ k ∧ k ≤ 248 := by omega
      simp [ascr, cscr, h1]
    rw [this] at hn; exact absurd hn (by decide)
theorem r_ever {μ : xM} {Q : Int → xM → Prop} (h : iOpen μ) (hq : ∀ ω, wkS (wi (wi μ 260 0 0) 260 11 0) ω → Q (EV (μ 263) (μ 270)) ω) : tX11_ever μ Q := by
  have hR := h.2.1
  have bN := hR.N
  have hC : isRise (μ 263) (μ 270) := h.2.2.2.2.2.2.2.2.2.2.2.2
  obtain ⟨M, eM⟩ : ∃ M, M = wi (wi μ 260 0 0) 260 11 0 := ⟨_, rfl⟩
  have Mk : ∀ k, k ≠ 260 → M k = μ k := fun k a => by rw [eM]; funext j; rw [wi_cell a, wi_cell a]
  have M14 : M 260 14 = 1 := by rw [eM]; exact h.1
  have M3 : M 263 = μ 263 := Mk 263 (by omega)
  have Mo : iOpW M := iOpW_c (M14.trans h.1.symm) (fun k hk => Mk k (by omega)) h.w
  have d24 : ∀ j, j < 3 → domF (μ 263) ((fun _ => 24 : Nat → Nat) j) := fun j _ => Or.inr rfl
  have ev0 : 0 ≤ EV (μ 263) (μ 270) := PL_ge hR (fun c _ => (cntG_rng _ _ _).1)
  intro _
  refine s_good ?_
  rw [← eM] at hq ⊢
  intro _
  refine ⟨fun _ _ _ _ => ?_, fun z => absurd (M14.symm.trans z) (by decide)⟩
  rw [M3]
  have wk := r_walk (μ := M) (R := μ 263) (gu := 0) (g := μ 263 4) (up := 8) (f0 := fun _ => 24) (Q := fun r12 μ10 => xIn r12 → xRan μ10 → xLoop2 0 0 μ10 (fun J38 l2_14 l3_15 μ16 =>
  (xIn l3_15) ∧ (((r12 ≤ l3_15 → (xIn l2_14) ∧ (Q l2_14 μ16)) ∧
  (¬ r12 ≤ l3_15 → (0 ≤ l3_15 ∧ l3_15 < 15625) ∧ (tX11_lettersAt (μ16 277 l3_15.toNat) μ16 (fun r25 μ23 => (xIn r25) → xRan μ23 → ((xIn l2_14) ∧ (((r25 ≤ l2_14 → J38 l2_14 (l3_15 + 1) μ23) ∧
  (¬ r25 ≤ l2_14 → tX11_lettersAt (μ23 277 l3_15.toNat) μ23 (fun r32 μ30 => (xIn r32) → xRan μ30 → (J38 r32 (l3_15 + 1) μ30))))))))))))) Mo M3 d24 (by omega) (by omega) (Or.inl rfl) (fun ω l w1 w2 w3 w4 w5 w6 w7 _ _ => ?_)
  · exact wk
  have W3 : ω 263 = μ 263 := (w1 263 (by omega) (by omega) (by omega)).trans M3
  refine rd2b (n := (l.length : Int)) (fun q b => 0 ≤ b ∧ b ≤ EV (μ 263) (μ 270) ∧ b ≤ 18 ∧ ∀ i, (hi : i < l.length) → (i : Int) < q → ∀ f, (∀ j, j < 3 → domF (μ 263) (f j)) → l[i] = cdF f → lenC (μ 263) f ≤ b) (by omega) ⟨by omega, ev0, by omega, fun i hi z => by omega⟩ ?_
  rintro q b K q0 q1 ⟨b0, b1, b2, b3⟩ hK
  obtain ⟨q, rfl⟩ : ∃ n : Nat, q = n := ⟨q.toNat, by omega⟩
  rw [Int.toNat_natCast]
  refine ⟨⟨by omega, by omega⟩, fun d => ⟨⟨by omega, by omega⟩, ?_⟩, fun d => ⟨⟨by omega, by omega⟩, ?_⟩⟩
  · have : b = EV (μ 263) (μ 270) := by
      obtain ⟨f, f1, f2⟩ := ev_att (C := μ 270) hR
      have fr := ev_all hR hC w2 f1
      have fl := cdF_lt (fun j hj => domF_le hR (evI_dom f1 j hj))
      obtain ⟨i, hi, e⟩ := List.getElem_of_mem ((w6 _ fl).2 fr)
      have := b3 i hi (by omega) f (evI_dom f1) e
      have f2' : lenC (μ 263) f = EV (μ 263) (μ 270) := f2
      omega
    rw [this]; exact hq ω w1
  · have hl : q < l.length := by omega
    have eq : ω 277 q = (l[q] : Nat) := w3 _ hl
    obtain ⟨f, hf, ef⟩ := w5 _ (List.getElem_mem hl)
    have lt : l[q] < 15625 := by rw [ef]; exact cdF_lt (fun j hj => domF_le hR (hf j hj))
    have rch := (w6 _ lt).1 (List.getElem_mem hl)
    obtain ⟨f', g1, g2⟩ := ev_reach hR hC w2 (ω 278 l[q]).toNat l[q] lt (by omega)
    have same := cdF_inj (fun j hj => domF_le hR (hf j hj)) (fun j hj => domF_le hR (evI_dom g1 j hj)) (ef.symm.trans g2)
    have le : lenC (μ 263) f ≤ EV (μ 263) (μ 270) := by
      have := ev_le hR g1
      unfold lenC at *
      rw [same 0 (by omega), same 1 (by omega), same 2 (by omega)]
      exact this
    have lb : 0 ≤ lenC (μ 263) f ∧ lenC (μ 263) f ≤ 18 := by
      have a := lnF_rng hR (hf 0 (by omega)); have b := lnF_rng hR (hf 1 (by omega)); have c := lnF_rng hR (hf 2 (by omega))
      unfold lenC; omega
    have nxt : ∀ b' : Int, 0 ≤ b' → b' ≤ EV (μ 263) (μ 270) → b' ≤ 18 → b ≤ b' → lenC (μ 263) f ≤ b' → K b' (q + 1) ω := by
      intro b' c0 c1 c2 c3 c4
      refine hK _ (by omega) ⟨c0, c1, c2, fun i hi z g hg eg => ?_⟩
      by_cases y : i = q
      · subst y
        have s2 := cdF_inj (fun j hj => domF_le hR (hf j hj)) (fun j hj => domF_le hR (hg j hj)) (ef.symm.trans eg)
        unfold lenC at *
        rw [← s2 0 (by omega), ← s2 1 (by omega), ← s2 2 (by omega)]
        exact c4
      · exact Int.le_trans (b3 i hi (by omega) g hg eg) c3
    rw [eq, ef]
    refine r_lettersAt W3 hR hf (fun _ _ => ⟨⟨by omega, by omega⟩, fun z => nxt b b0 b1 b2 (Int.le_refl _) z, fun z => ?_⟩)
    rw [eq, ef]
    exact r_lettersAt W3 hR hf (fun _ _ => nxt _ (by omega) le lb.2 (by omega) (Int.le_refl _))
/-- ever -/
theorem c_26 {sc : Int → Int} {i : Int} {μ : xM} (hi : Inv μ) : tl_26 sc i μ Inv := by
  have hK : ∀ a, a ≠ 4 → Inv (tr μ a) := fun a => Inv_tr hi
  rcases hi.os with h | h
  · have h14 := h.1
    have hR := h.2.1
    have ref : ∀ ν : xM, Inv ν → rsS μ ν → tX11_ever (wi ν 0 18 0) (fun r' ω => xIn r' → xRan ω → EV (μ 263) (μ 270) = r' ∧ Inv ω) := by
      intro ν iv b
      have on := iOpen_a (rs_a b) h
      have e3 : ν 263 = μ 263 := b.1 263 (by omega)
      have e70 : ν 270 = μ 270 := b.1 270 (by omega)
      have o2 : iOpen (wi ν 0 18 0) := iOpen_a (asame.w (by decide)) on
      refine r_ever o2 (fun ω w _ _ => ⟨?_, ?_⟩)
      · show EV (μ 263) (μ 270) = EV (ν 263) (ν 270)
        rw [e3, e70]
      · refine Inv_scr (a := 0) iv (fun k hk => ?_) (by decide)
        exact w k (by rintro rfl; exact hk (by unfold scrK; omega)) (by rintro rfl; exact hk (by unfold scrK; omega)) (by rintro rfl; exact hk (by unfold scrK; omega))
    intro _
    refine k_open h (fun _ _ => ⟨fun _ => ⟨fun z => ?_, fun z => ?_⟩, fun z => absurd z (by decide)⟩)
    · have c2 : μ 216 1 = EV (μ 263) (μ 270) := (hi.cache h).2.1 z
      rw [c2]
      exact s_granted (fun _ _ _ _ => ref μ hi ⟨fun _ _ => rfl, c2⟩)
    · refine s_survey (by omega) h.w (by omega) (fun ν v0 v1 v2 v3 v4 v5 v6 => ?_)
      rw [if_pos rfl, Int.add_zero, planF_c xH_have] at v1
      have b : rsS μ ν := ⟨v0, v1⟩
      rw [b.2]
      exact s_granted (fun _ _ _ _ => ref ν (Inv_risen hi h b) b)
  · have h14 := h.1
    have ref : tX11_ever (wi μ 0 18 1) (fun r' ω => xIn r' → xRan ω → -1 = r' ∧ Inv ω) := by
      intro _
      exact s_good (fun _ => ⟨fun z => absurd h14 z, fun _ => s_no (fun _ _ _ _ => ⟨rfl, K_no (hK 1 (by decide))⟩)⟩)
    intro _
    exact k_shut h (fun _ _ => ⟨fun z => absurd z (by decide), fun _ => s_refused (fun _ _ _ _ => ref)⟩)
