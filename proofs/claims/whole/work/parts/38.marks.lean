/-! mark, back, wrong, feed -/
theorem iNight_t {μ ν : xM} {o c m o' c' m' : Nat} (h1 : ∀ j : Nat, j < 3 → ν (o' + 1) j = μ (o + 1) j) (h2 : ∀ j : Nat, j < 3 → ν o' j = μ o j) (h3 : ∀ j : Nat, j < 6 → ν c' (m' + j) = μ c (m + j)) (h4 : ν 263 = μ 263) (h : iNight μ o c m) : iNight ν o' c' m' := by
  have a0 : ν c' m' = μ c m := h3 0 (by omega)
  have a1 := h3 1 (by omega); have a2 := h3 2 (by omega); have a3 := h3 3 (by omega); have a4 := h3 4 (by omega); have a5 := h3 5 (by omega)
  have b0 := h2 0 (by omega); have b1 := h2 1 (by omega); have b2 := h2 2 (by omega)
  obtain ⟨x1, x2, x3, x4, x5⟩ := h
  refine ⟨fun t ht => ?_, ?_, ?_, ?_, ?_⟩
  · rw [h1 t ht, h3 t (by omega), h4]; exact x1 t ht
  · rw [a3, b0]; exact x2
  · rw [a4, b1, h4]; exact x3
  · rw [a5, b1, b2]; exact x4
  · rw [a0, a1, a2, b1, h4]; exact x5
def cyM (μ : xM) (o p : Nat) : xM := fun k j => if k = o ∧ j < 3 then μ p j else if k = o + 1 ∧ j < 3 then μ (p + 1) j else μ k j
theorem s_copy {μ : xM} {o p : Nat} {Q : xM → Prop} (h1 : o ≠ p) (h2 : p ≠ o + 1) (h3 : o ≠ p + 1) (h : Q (cyM μ o p)) : tX4_copyFrom o p μ Q := by
  intro _
  refine wl fun _ => wl fun _ => wl fun _ => wl fun _ => ?_
  have e : cpM (wi (wi (wi μ o 0 (μ p 0)) o 1 (wi μ o 0 (μ p 0) p 1)) o 2 (wi (wi μ o 0 (μ p 0)) o 1 (wi μ o 0 (μ p 0) p 1) p 2)) (p + 1) (o + 1) 3 = cyM μ o p := by
    funext k j
    simp only [cpM, wi, cyM]
    by_cases e1 : k = o
    · subst e1
      by_cases j0 : j = 0
      · simp [j0, h1, h1.symm]
      · by_cases j1 : j = 1
        · simp [j1, h1, h1.symm]
        · by_cases j2 : j = 2
          · simp [j2, h1, h1.symm]
          · simp [j0, j1, j2, show ¬ j < 3 by omega]
    · by_cases e2 : k = o + 1
      · subst e2
        by_cases j3 : j < 3
        · simp [j3, h3.symm]
        · simp [j3]
      · simp [e1, e2]
  rw [e]
  exact h
/-- mark -/
def mkM (μ : xM) (m n : Nat) : xM := fun k j => if k = 266 ∧ 6 * m ≤ j ∧ j < 6 * m + n then μ 265 (j - 6 * m) else μ k j
theorem c_34 {sc : Int → Int} {i : Int} {μ : xM} (hi : Inv μ) : tl_34 sc i μ Inv := by
  have hK : ∀ a, a ≠ 4 → Inv (tr μ a) := fun a => Inv_tr hi
  rcases hi.os with h | h
  · have h14 := h.1
    have hN := h.2.2.2.1
    have e17 := hN.2.1
    have m0 := hN.2.2.1
    have m1 := hN.2.2.2.1
    by_cases hm : μ 260 19 = 3
    · intro _
      refine k_open h (fun _ _ => ⟨fun _ => ⟨fun z => by omega, fun _ => ⟨fun z => by omega, fun _ => s_refused (fun _ _ _ _ => ?_)⟩⟩, fun z => absurd z (by decide)⟩)
      intro _
      exact s_good (fun _ => ⟨fun _ => ⟨fun z => absurd hm z, fun _ => s_no (fun _ _ _ _ => ⟨rfl, K_no (hK 3 (by decide))⟩)⟩, fun z => absurd (h14.symm.trans z) (by decide)⟩)
    · obtain ⟨m, em⟩ : ∃ m : Nat, μ 260 19 = m := ⟨(μ 260 19).toNat, by omega⟩
      have em2 : (μ 0 17).toNat = m := by omega
      intro _
      refine k_open h (fun _ _ => ⟨fun _ => ⟨fun z => by omega, fun _ => ⟨fun _ => ⟨⟨by omega, by omega⟩, ?_⟩, fun z => by omega⟩⟩, fun z => absurd z (by decide)⟩)
      rw [em2]
      refine s_copy (by omega) (by omega) (by omega) (fun _ => ?_)
      have f1 : cyM μ (254 + 2 * m) 249 0 17 = m := by
        simp only [cyM]
        rw [if_neg (by omega), if_neg (by omega), e17, em]
      rw [f1]
      refine ⟨⟨by omega, by omega⟩, wl fun _ => ?_⟩
      rw [wi_self]
      refine ⟨⟨by omega, by omega⟩, s_granted (fun _ _ _ _ => ?_)⟩
      intro _
      have g : ∀ k j, k ≠ 0 → ¬ (253 ≤ k ∧ k < 260) → wi (wi (wi (wi (cyM μ (254 + 2 * m) 249) 0 17 (m + 1)) 0 18 0) 260 0 0) 260 11 0 k j = if k = 260 ∧ j = 0 then 0 else if k = 260 ∧ j = 11 then 0 else μ k j := by
        intro k j k0 k1
        simp only [wi, cyM]
        by_cases q : k = 260 ∧ j = 0
        · simp [q]
        · by_cases q2 : k = 260 ∧ j = 11
          · simp [q2]
          · rw [if_neg q2, if_neg q, if_neg (by omega), if_neg (by omega), if_neg (by omega), if_neg (by omega), if_neg q, if_neg q2]
      have g19 : wi (wi (wi (wi (cyM μ (254 + 2 * m) 249) 0 17 (m + 1)) 0 18 0) 260 0 0) 260 11 0 260 19 = m := by rw [g 260 19 (by omega) (by omega), if_neg (by omega), if_neg (by omega), em]
      refine s_good (fun _ => ⟨fun _ => ⟨fun _ => ?_, fun z => absurd (g19.symm.trans z) (by omega)⟩, fun z => absurd (h14.symm.trans ((g 260 14 (by omega) (by omega)).symm.trans z)) (by decide)⟩)
      obtain ⟨B, hB⟩ : ∃ B, B = wi (wi (wi (wi (cyM μ (254 + 2 * m) 249) 0 17 (m + 1)) 0 18 0) 260 0 0) 260 11 0 := ⟨_, rfl⟩
      rw [← hB] at g g19 ⊢
      refine up1 (n := 6) (fun i ν => ν = mkM B m i.toNat) (by omega) ?_ ?_
      · funext k j
        simp only [mkM]
        rw [if_neg (by omega)]
      · rintro i ν K i0 i1 rfl _ hK2
        have e19 : mkM B m i.toNat 260 19 = m := by simp only [mkM]; rw [if_neg (by omega)]; exact g19
        rw [e19]
        refine ⟨⟨by omega, by omega⟩, fun c => ⟨⟨by omega, by omega⟩, wl fun _ => ?_⟩, fun c => ⟨⟨i0, by omega⟩, ⟨by omega, by omega⟩, wl fun _ => hK2 _ (by omega) ?_⟩⟩
        · rw [wi_self]
          refine ⟨⟨by omega, by omega⟩, fun _ _ => ⟨rfl, ?_⟩⟩
          rw [show i.toNat = 6 by omega]
          have gg : ∀ k j, ¬ (k = 260 ∧ j = 19) → k ≠ 266 → wi (mkM B m 6) 260 19 (m + 1) k j = B k j := by
            intro k j q q2
            simp only [wi, mkM]
            rw [if_neg q, if_neg (by omega)]
          have row : ∀ k, k ≠ 260 → k ≠ 266 → k ≠ 0 → ¬ (253 ≤ k ∧ k < 260) → wi (mkM B m 6) 260 19 (m + 1) k = μ k := by
            intro k q1 q2 q3 q4
            funext j
            rw [gg k j (by omega) q2, g k j q3 q4, if_neg (by omega), if_neg (by omega)]
          have s : nsame μ (wi (mkM B m 6) 260 19 (m + 1)) := by
            intro k j hn
            have h1 : ¬ (k = 260 ∧ j = 19) := by rintro ⟨rfl, rfl⟩; exact absurd hn (by decide)
            have h2 : k ≠ 266 := by rintro rfl; exact absurd hn (by simp [nscr])
            have h3 : ¬ (k = 260 ∧ j = 0) := by rintro ⟨rfl, rfl⟩; exact absurd hn (by decide)
            have h4 : ¬ (k = 260 ∧ j = 11) := by rintro ⟨rfl, rfl⟩; exact absurd hn (by decide)
            have h5 : ¬ (253 ≤ k ∧ k < 260) := by rintro ⟨a, b⟩; exact absurd hn (by simp [nscr, a, b])
            rw [gg k j h1 h2]
            by_cases q : k = 0
            · subst q
              have h6 : j ≠ 17 := by rintro rfl; exact absurd hn (by decide)
              have h7 : j ≠ 18 := by rintro rfl; exact absurd hn (by decide)
              rw [hB]
              simp only [wi, cyM]
              rw [if_neg (by omega), if_neg (by omega), if_neg (by omega), if_neg (by omega), if_neg (by omega), if_neg (by omega)]
            · rw [g k j q h5, if_neg h3, if_neg h4]
          have c1 : wi (mkM B m 6) 260 19 (m + 1) 0 17 = m + 1 := by rw [gg 0 17 (by omega) (by omega), hB]; rfl
          have c2 : wi (mkM B m 6) 260 19 (m + 1) 260 19 = m + 1 := wi_self _ _ _ _
          refine Inv_n (a := 0) hi h s (congrFun (row 35 (by omega) (by omega) (by omega) (by omega)) 1) ?_ ?_ ?_ (by decide) (iBase_c (fun k hk => row k (by omega) (by omega) (by omega) (by omega)) (congrFun (row 236 (by omega) (by omega) (by omega) (by omega)) 5) (congrFun (row 236 (by omega) (by omega) (by omega) (by omega)) 6) hi.2.2.1) (iCache_c (fun k hk => row k (by omega) (by omega) (by omega) (by omega)) (hi.cache h)) ⟨?_, ?_, ?_, ?_, ?_⟩
          · rw [gg 260 9 (by omega) (by omega), g 260 9 (by omega) (by omega), if_neg (by omega), if_neg (by omega)]
          · rw [gg 0 18 (by omega) (by omega), hB]; rfl
          · rw [gg 260 11 (by omega) (by omega), g 260 11 (by omega) (by omega), if_neg (by omega), if_pos (by omega)]
          · exact iNight_c (row 249 (by omega) (by omega) (by omega) (by omega)) (row 250 (by omega) (by omega) (by omega) (by omega)) (row 265 (by omega) (by omega) (by omega) (by omega)) (row 263 (by omega) (by omega) (by omega) (by omega)) hN.1
          · rw [c1, c2]
          · rw [c2]; omega
          · rw [c2]; omega
          · intro i hi3 hi4
            rw [c2] at hi4
            by_cases e : i = m
            · subst e
              refine iNight_t (fun j hj => ?_) (fun j hj => ?_) (fun j hj => ?_) (row 263 (by omega) (by omega) (by omega) (by omega)) hN.1
              · rw [gg _ _ (by omega) (by omega), hB]
                simp only [wi, cyM]
                rw [if_neg (by omega), if_neg (by omega), if_neg (by omega), if_neg (by omega), if_neg (by omega), if_pos ⟨trivial, hj⟩]
              · rw [gg _ _ (by omega) (by omega), hB]
                simp only [wi, cyM]
                rw [if_neg (by omega), if_neg (by omega), if_neg (by omega), if_neg (by omega), if_pos ⟨trivial, hj⟩]
              · simp only [wi, mkM]
                rw [if_neg (by omega), if_pos ⟨trivial, by omega, by omega⟩, show 6 * i + j - 6 * i = j by omega, g 265 j (by omega) (by omega), if_neg (by omega), if_neg (by omega), Nat.zero_add]
            · refine iNight_t (fun j hj => ?_) (fun j hj => ?_) (fun j hj => ?_) (row 263 (by omega) (by omega) (by omega) (by omega)) (hN.2.2.2.2 i hi3 (by omega))
              · rw [gg _ _ (by omega) (by omega), hB]
                simp only [wi, cyM]
                rw [if_neg (by omega), if_neg (by omega), if_neg (by omega), if_neg (by omega), if_neg (by omega), if_neg (by omega)]
              · rw [gg _ _ (by omega) (by omega), hB]
                simp only [wi, cyM]
                rw [if_neg (by omega), if_neg (by omega), if_neg (by omega), if_neg (by omega), if_neg (by omega), if_neg (by omega)]
              · simp only [wi, mkM]
                rw [if_neg (by omega), if_neg (by omega), g 266 (6 * i + j) (by omega) (by omega), if_neg (by omega), if_neg (by omega)]
        · funext k j
          rw [show (i + 1).toNat = i.toNat + 1 by omega, show (6 * (m : Int) + i).toNat = 6 * m + i.toNat by omega]
          simp only [wi, mkM]
          by_cases q : k = 266
          · by_cases q2 : j = 6 * m + i.toNat
            · subst q2
              rw [if_pos ⟨q, rfl⟩, if_neg (by omega), if_pos (by omega), show 6 * m + i.toNat - 6 * m = i.toNat by omega]
            · rw [if_neg (by omega)]
              by_cases q3 : 6 * m ≤ j ∧ j < 6 * m + i.toNat
              · rw [if_pos ⟨q, q3⟩, if_pos (by omega)]
              · rw [if_neg (by omega), if_neg (by omega)]
          · rw [if_neg (by omega), if_neg (by omega), if_neg (by omega)]
  · have h14 := h.1
    unfold tl_34
    repeat' (first
      | with_reducible refine k_shut h ?_
      | with_reducible refine s_refused ?_
      | with_reducible refine s_good ?_
      | with_reducible refine s_no ?_
      | (intro zq; exact absurd zq (by decide))
      | (intro zq; exact absurd h14 zq)
      | intro _
      | with_reducible refine And.intro ?_ ?_)
    all_goals first | rfl | contradiction | (exact K_no (hK _ (by decide))) | (exact hK _ (by decide)) | omega | (unfold goodI wordF at *; omega) | skip
/-- back -/
def bkM (μ : xM) (m n : Nat) : xM := fun k j => if k = 265 ∧ j < n then μ 266 (6 * m + j) else μ k j
theorem c_35 {sc : Int → Int} {i : Int} {μ : xM} (hi : Inv μ) : tl_35 sc i μ Inv := by
  obtain ⟨w, ew⟩ : ∃ w, w = sc (i + 1) := ⟨_, rfl⟩
  unfold tl_35
  rw [← ew]
  have hK : ∀ a, a ≠ 4 → Inv (tr μ a) := fun a => Inv_tr hi
  have e17 : μ 0 17 = μ 260 19 ∧ 0 ≤ μ 260 19 ∧ μ 260 19 ≤ 3 := by
    rcases hi.os with h | h
    · exact ⟨h.2.2.2.1.2.1, h.2.2.2.1.2.2.1, h.2.2.2.1.2.2.2.1⟩
    · have := h.2.2.2.2.1; have := h.2.2.2.2.2.1; omega
  by_cases hw : 0 ≤ w ∧ w < μ 260 19
  · have h : iOpen μ := by
      rcases hi.os with h | h
      · exact h
      · have := h.2.2.2.2.2.1; omega
    have hN := h.2.2.2.1
    obtain ⟨m, rfl⟩ : ∃ m : Nat, w = m := ⟨w.toNat, by omega⟩
    intro _ _
    refine ⟨fun z => by omega, fun _ => ⟨fun z => by omega, fun _ => ⟨fun _ => ⟨⟨by omega, by omega⟩, ?_⟩, fun z => by omega⟩⟩⟩
    rw [Int.toNat_natCast]
    refine s_copy (by omega) (by omega) (by omega) (fun _ => s_allowed (fun _ _ _ _ => ?_))
    intro _ _
    have g : ∀ k j, ¬ (k = 0 ∧ j = 18) → ¬ (k = 260 ∧ j = 0) → ¬ (k = 260 ∧ j = 11) → k ≠ 249 → k ≠ 250 → wi (wi (wi (cyM μ 249 (254 + 2 * m)) 0 18 0) 260 0 0) 260 11 0 k j = μ k j := by
      intro k j q1 q2 q3 q4 q5
      simp only [wi, cyM]
      rw [if_neg q3, if_neg q2, if_neg q1, if_neg (by omega), if_neg (by omega)]
    refine s_good (fun _ => ?_)
    rw [g 260 19 (by omega) (by omega) (by omega) (by omega) (by omega)]
    refine ⟨⟨by omega, by omega⟩, s_within (fun _ _ _ _ => ⟨fun _ => ?_, fun z => absurd z (by decide)⟩) (fun z => absurd ⟨hw.1, by omega⟩ z)⟩
    obtain ⟨B, hB⟩ : ∃ B, B = wi (wi (wi (cyM μ 249 (254 + 2 * m)) 0 18 0) 260 0 0) 260 11 0 := ⟨_, rfl⟩
    rw [← hB] at g ⊢
    refine up1 (n := 6) (fun i ν => ν = bkM B m i.toNat) (by omega) ?_ ?_
    · funext k j
      simp only [bkM]
      rw [if_neg (by omega)]
    · rintro i ν K i0 i1 rfl _ hK2
      refine ⟨⟨by omega, by omega⟩, fun c _ _ => ⟨rfl, ?_⟩, fun c => ⟨⟨by omega, by omega⟩, ⟨i0, by omega⟩, wl fun _ => hK2 _ (by omega) ?_⟩⟩
      · rw [show i.toNat = 6 by omega]
        have row : ∀ k, k ≠ 260 → k ≠ 265 → k ≠ 0 → k ≠ 249 → k ≠ 250 → bkM B m 6 k = μ k := by
          intro k q1 q2 q3 q4 q5
          funext j
          simp only [bkM]
          rw [if_neg (by omega), g k j (by omega) (by omega) (by omega) q4 q5]
        have s : nsame μ (bkM B m 6) := by
          intro k j hn
          have h2 : k ≠ 265 := by rintro rfl; exact absurd hn (by simp [nscr])
          have h3 : ¬ (k = 260 ∧ j = 0) := by rintro ⟨rfl, rfl⟩; exact absurd hn (by decide)
          have h4 : ¬ (k = 260 ∧ j = 11) := by rintro ⟨rfl, rfl⟩; exact absurd hn (by decide)
          have h5 : ¬ (k = 0 ∧ j = 18) := by rintro ⟨rfl, rfl⟩; exact absurd hn (by decide)
          have h6 : k ≠ 249 := by rintro rfl; exact absurd hn (by simp [nscr])
          have h7 : k ≠ 250 := by rintro rfl; exact absurd hn (by simp [nscr])
          simp only [bkM]
          rw [if_neg (by omega)]
          exact g k j h5 h3 h4 h6 h7
        refine Inv_n (a := 0) hi h s (congrFun (row 35 (by omega) (by omega) (by omega) (by omega) (by omega)) 1) (g 260 9 (by omega) (by omega) (by omega) (by omega) (by omega)) (by rw [hB]; rfl) (by rw [hB]; rfl) (by decide) (iBase_c (fun k hk => row k (by omega) (by omega) (by omega) (by omega) (by omega)) (congrFun (row 236 (by omega) (by omega) (by omega) (by omega) (by omega)) 5) (congrFun (row 236 (by omega) (by omega) (by omega) (by omega) (by omega)) 6) hi.2.2.1) (iCache_c (fun k hk => row k (by omega) (by omega) (by omega) (by omega) (by omega)) (hi.cache h)) (nights_keep hN (iNight_t (fun j hj => ?_) (fun j hj => ?_) (fun j hj => ?_) (row 263 (by omega) (by omega) (by omega) (by omega) (by omega)) (hN.2.2.2.2 m (by omega) hw.2)) ?_ (g 260 19 (by omega) (by omega) (by omega) (by omega) (by omega)) (fun k _ _ => row k (by omega) (by omega) (by omega) (by omega) (by omega)) (row 266 (by omega) (by omega) (by omega) (by omega) (by omega)) (row 263 (by omega) (by omega) (by omega) (by omega) (by omega)))
        · simp only [bkM]
          rw [if_neg (by omega), hB]
          simp only [wi, cyM]
          rw [if_neg (by omega), if_neg (by omega), if_neg (by omega), if_neg (by omega), if_pos ⟨trivial, hj⟩]
        · simp only [bkM]
          rw [if_neg (by omega), hB]
          simp only [wi, cyM]
          rw [if_neg (by omega), if_neg (by omega), if_neg (by omega), if_pos ⟨trivial, hj⟩]
        · simp only [bkM]
          rw [if_pos ⟨trivial, by omega⟩, Nat.zero_add, g 266 (6 * m + j) (by omega) (by omega) (by omega) (by omega) (by omega)]
        · exact (show bkM B m 6 0 17 = B 0 17 from rfl).trans (g 0 17 (by omega) (by omega) (by omega) (by omega) (by omega))
      · funext k j
        rw [show (i + 1).toNat = i.toNat + 1 by omega, show (6 * (m : Int) + i).toNat = 6 * m + i.toNat by omega]
        simp only [wi, bkM]
        by_cases q : k = 265
        · by_cases q2 : j = i.toNat
          · subst q2
            rw [if_pos ⟨q, rfl⟩, if_neg (by omega), if_pos (by omega)]
          · rw [if_neg (by omega)]
            by_cases q3 : j < i.toNat
            · rw [if_pos ⟨q, q3⟩, if_pos (by omega)]
            · rw [if_neg (by omega), if_neg (by omega)]
        · rw [if_neg (by omega), if_neg (by omega), if_neg (by omega)]
  · have ref : tX11_back w (wi μ 0 18 1) (fun r' ν => (r' = 0 ∨ r' = 1) → xRan ν → ((0 = r') ∧ (Inv ν))) := by
      intro _ _
      exact s_good (fun _ => ⟨⟨show -2147483648 ≤ μ 260 19 - 1 by omega, show μ 260 19 - 1 ≤ 2147483647 by omega⟩, s_within (fun a b => absurd ⟨a, show w < μ 260 19 by have : w ≤ μ 260 19 - 1 := b; omega⟩ hw) (fun _ _ _ => ⟨fun z => absurd z (by decide), fun _ => s_isNot (fun _ _ _ _ => ⟨rfl, K_no (hK 1 (by decide))⟩)⟩)⟩)
    intro _ _
    refine ⟨fun _ => s_denied (fun _ _ _ _ => ref), fun _ => ⟨fun _ => s_denied (fun _ _ _ _ => ref), fun _ => ⟨fun z => by omega, fun _ => s_denied (fun _ _ _ _ => ref)⟩⟩⟩
