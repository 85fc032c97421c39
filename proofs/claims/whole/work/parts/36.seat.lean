/-! seat, mark, back -/
def sitM (μ : xM) (o : Nat) (t v : Int) : xM := wi (wi (wi μ (o + 1) t.toNat v) o 2 (xOr (μ o 2) (xShl 1 (μ o 1)))) o 1 (μ o 1 + 1)
theorem s_sitDown {μ : xM} {o : Nat} {t v : Int} {Q : xM → Prop} (h0 : 0 ≤ t) (h1 : t < 3) (h2 : xIn (μ o 1 + 1)) (h : Q (sitM μ o t v)) : tX4_sitDown o t v μ Q := by
  intro _ _ _
  refine ⟨fun z => by omega, fun _ => ⟨fun z => by omega, fun _ => ⟨⟨h0, h1⟩, wl fun _ => wl fun _ => ?_⟩⟩⟩
  have e1 : wi μ (o + 1) t.toNat v o 2 = μ o 2 := wi_cell (by omega)
  have e2 : wi μ (o + 1) t.toNat v o 1 = μ o 1 := wi_cell (by omega)
  have e3 : wi (wi μ (o + 1) t.toNat v) o 2 (xOr (μ o 2) (xShl 1 (μ o 1))) o 1 = μ o 1 := by rw [wi_place (by omega), e2]
  rw [e1, e2, e3]
  exact ⟨h2, wl fun _ => h⟩
def layM (μ : xM) (a b c : Int) (n : Nat) : xM := fun k j => if k = 265 ∧ j < n then pk a b c j else μ k j
theorem r_laysTables {μ : xM} {a b c : Int} {Q : xM → Prop} (ha : k3 a) (hb : k3 b) (hc : k3 c) (h : Q (layM μ a b c 3)) : tX11_laysTables (cd a b c) μ Q := by
  intro _ _
  refine up1 (n := 3) (fun i ν => ν = layM μ a b c i.toNat) (by omega) ?_ ?_
  · funext k j; simp [layM]
  · rintro i ν K h0 h1 rfl _ hK
    refine ⟨⟨by omega, by omega⟩, fun q => ?_, fun q => r_wordOf ha hb hc (fun _ _ => ⟨⟨h0, by omega⟩, wl fun _ => hK _ (by omega) ?_⟩)⟩
    · have e : i.toNat = 3 := by omega
      rw [e]; exact h
    · funext k j
      have e : (i + 1).toNat = i.toNat + 1 := by omega
      simp only [wi, layM, e]
      by_cases hk : k = 265
      · by_cases hj : j = i.toNat
        · subst hj; simp [hk, Int.toNat_of_nonneg h0]
        · by_cases hl : j < i.toNat
          · simp [hk, hj, hl, Nat.lt_succ_of_lt hl]
          · have : ¬ j < i.toNat + 1 := by omega
            simp [hk, hj, hl, this]
      · simp [hk]
theorem iNight.st {μ : xM} {o c m : Nat} (h : iNight μ o c m) (hN : μ 263 4 ≤ 8) : xOr (μ o 2) (xShl 1 (μ o 1)) = μ o 2 + pw (μ o 1) := b_seat h.2.2.1.2.1 (by have := h.2.2.1.2.2; omega) h.2.2.2.1.1 h.2.2.2.1.2.1
/-- seat -/
theorem c_21 {sc : Int → Int} {i : Int} {μ : xM} (hi : Inv μ) : tl_21 sc i μ Inv := by
  obtain ⟨t, et⟩ : ∃ w, w = sc (i + 1) := ⟨_, rfl⟩
  obtain ⟨v, ev⟩ : ∃ w, w = sc (i + 2) := ⟨_, rfl⟩
  unfold tl_21
  rw [← et, ← ev]
  have hK : ∀ a, a ≠ 4 → Inv (tr μ a) := fun a => Inv_tr hi
  rcases hi.os with h | h
  · have h14 := h.1
    have hN := h.2.2.2.1
    have bT := h.2.1.T
    have bW := h.2.1.W
    have bN := h.2.1.N
    have e0 := h.2.2.1.1 0 (by omega)
    have e4 := h.2.2.1.1 4 (by omega)
    have n21 : μ 249 1 = μ 265 4 := hN.1.2.2.1.1
    have n22 := hN.1.2.2.1.2
    have a0 : k3 (μ 265 0) := hN.1.kk 0 (by omega)
    have a1 : k3 (μ 265 1) := hN.1.kk 1 (by omega)
    have a2 : k3 (μ 265 2) := hN.1.kk 2 (by omega)
    have x0 : μ 250 0 = μ 265 0 := (hN.1.1 0 (by omega)).1
    have x1 : μ 250 1 = μ 265 1 := (hN.1.1 1 (by omega)).1
    have x2 : μ 250 2 = μ 265 2 := (hN.1.1 2 (by omega)).1
    have hpk : 0 ≤ t → t < 3 → pk (μ 265 0) (μ 265 1) (μ 265 2) t = μ 250 t.toNat := by
      intro q0 q1
      rcases (show t = 0 ∨ t = 1 ∨ t = 2 by omega) with rfl | rfl | rfl
      · exact x0.symm
      · exact x1.symm
      · exact x2.symm
    have kt : 0 ≤ t → t < 3 → k3 (μ 250 t.toNat) := fun q0 q1 => by rw [← hpk q0 q1]; exact pk_k3 a0 a1 a2
    have fin : 0 ≤ t → t < μ 263 0 → 0 ≤ v → v < μ 263 3 → μ 249 1 < μ 263 4 → byF (μ 263) (μ 250 t.toNat).toNat v.toNat = μ 263 (295 + (μ 249 1).toNat) →
        ∀ z, tX11_laysTables (wt (μ 265 0) (μ 265 1) (μ 265 2) t v) (wi (wi (wi (sitM μ 249 t v) 0 18 0) 260 0 0) 260 11 0) (fun μ32 => xRan μ32 → ((xIn ((μ32 265 4) + 1)) ∧ (∀ μ36 : xM, μ36 = wi μ32 265 4 ((μ32 265 4) + 1) → xRan μ36 → ((1 : Int) = 0 ∨ (1 : Int) = 1) → xRan μ36 → z = (1 : Int) ∧ Inv μ36))) ∨ z ≠ 1 := by
      intro t0 t1 v0 v1 lt hb z
      by_cases hz : z = 1
      · left
        subst hz
        have kv : k3 v := ⟨v0, by omega⟩
        refine r_laysTables ?_ ?_ ?_ (fun _ => ⟨?_, wl fun _ _ _ => ⟨rfl, ?_⟩⟩)
        · split; exact kv; exact a0
        · split; exact kv; exact a1
        · split; exact a2; exact kv
        · show xIn (μ 265 4 + 1)
          unfold xIn; omega
        · have ok := hN.1.ok.grow h.2.1 n22.1 lt (t := t.toNat) (v := v.toNat) (by omega) hb
          have sq := hN.1.st (by omega)
          have n3 := hN.1.2.2.2.1
          have n33 : μ 265 5 = pw (μ 249 1) - 1 - μ 249 2 := n3.2.2
          have q := pw_succ n22.1
          refine Inv_n (a := 0) hi h (nsame.w ?_ rfl) rfl rfl rfl rfl (by decide) (iBase_c (fun k hk => ?_) rfl rfl hi.2.2.1) (iCache_c (fun k hk => ?_) (hi.cache h)) (nights_keep hN (iNight_of ?_ ?_ ?_ ?_ ?_ ?_ ?_ ?_) rfl rfl ?_ rfl rfl)
          · intro k j hn
            have h1 : k ≠ 265 := by rintro rfl; exact absurd hn (by simp [nscr])
            have h2 : k ≠ 250 := by rintro rfl; exact absurd hn (by simp [nscr])
            have h3 : k ≠ 249 := by rintro rfl; exact absurd hn (by simp [nscr])
            have h4 : ¬ (k = 0 ∧ j = 18) := by rintro ⟨rfl, rfl⟩; exact absurd hn (by decide)
            have h5 : ¬ (k = 260 ∧ j = 0) := by rintro ⟨rfl, rfl⟩; exact absurd hn (by decide)
            have h6 : ¬ (k = 260 ∧ j = 11) := by rintro ⟨rfl, rfl⟩; exact absurd hn (by decide)
            simp [layM, sitM, wi, h1, h2, h3, h4, h5, h6]
          · funext j; simp [layM, sitM, wi, show k ≠ 0 by omega, show k ≠ 260 by omega, show k ≠ 265 by omega, show k ≠ 249 by omega, show k ≠ 250 by omega]
          · funext j; simp [layM, sitM, wi, show k ≠ 0 by omega, show k ≠ 260 by omega, show k ≠ 265 by omega, show k ≠ 249 by omega, show k ≠ 250 by omega]
          · intro j hj
            rcases (show t = 0 ∨ t = 1 ∨ t = 2 by omega) with rfl | rfl | rfl <;> rcases (show j = 0 ∨ j = 1 ∨ j = 2 by omega) with rfl | rfl | rfl
            all_goals first | rfl | exact x0 | exact x1 | exact x2
          · have e : wi (layM (wi (wi (wi (sitM μ 249 t v) 0 18 0) 260 0 0) 260 11 0) (if t = 0 then v else μ 265 0) (if t = 1 then v else μ 265 1) (if t = 0 ∨ t = 1 then μ 265 2 else v) 3) 265 4 (layM (wi (wi (wi (sitM μ 249 t v) 0 18 0) 260 0 0) 260 11 0) (if t = 0 then v else μ 265 0) (if t = 1 then v else μ 265 1) (if t = 0 ∨ t = 1 then μ 265 2 else v) 3 265 4 + 1) (249 + 1) = setT (μ 250) t.toNat v.toNat := by
              funext j
              simp only [layM, sitM, wi, setT]
              by_cases hj : j = t.toNat
              · simp [hj, Int.toNat_of_nonneg v0]
              · simp [hj]
            rw [e]
            exact ok
          · exact hN.1.2.1.1
          · exact hN.1.2.1.2
          · show μ 249 1 + 1 = μ 265 4 + 1
            rw [n21]
          · show 0 ≤ μ 249 1 + 1 ∧ μ 249 1 + 1 ≤ μ 263 4
            omega
          · show 0 ≤ xOr (μ 249 2) (xShl 1 (μ 249 1)) ∧ xOr (μ 249 2) (xShl 1 (μ 249 1)) < pw (μ 249 1 + 1)
            rw [sq]; omega
          · show μ 265 5 = pw (μ 249 1 + 1) - 1 - xOr (μ 249 2) (xShl 1 (μ 249 1))
            rw [sq]; omega
          · intro k _ _
            funext j; simp [layM, sitM, wi, show k ≠ 0 by omega, show k ≠ 260 by omega, show k ≠ 265 by omega, show k ≠ 249 by omega, show k ≠ 250 by omega]
      · exact Or.inr hz
    have mt : ∀ (A : xM) , A = μ → True := fun _ _ => trivial
    by_cases ht : 0 ≤ t ∧ t < μ 263 0
    · by_cases hv : wordF (μ 263) v
      · have v0 := hv.1
        have v1 := hv.2
        by_cases hc : μ 249 1 < μ 263 4
        · by_cases hb : byF (μ 263) (μ 250 t.toNat).toNat v.toNat = μ 263 (295 + (μ 249 1).toNat)
          · have bf := h.2.1.fst (g := (μ 249 1).toNat) (by omega)
            have fin := (fin ht.1 ht.2 v0 v1 hc hb 1).resolve_right (fun z => z rfl)
            intro _ _ _
            refine ⟨fun z => by omega, fun _ => ⟨fun z => by omega, fun _ => k_word h (fun _ _ _ => ⟨fun _ => ⟨fun _ => s_at (fun _ _ _ _ => k_letterOf h (kt ht.1 (by omega)).1 (Int.lt_of_le_of_lt (kt ht.1 (by omega)).2 (by decide)) v0 (by omega) (fun _ _ => k_first h (fun _ _ _ _ => ⟨fun _ => s_sitDown ht.1 (by omega) ⟨by omega, by omega⟩ (fun _ => s_allowed (fun _ _ _ _ => ?_)), fun z => absurd hb z⟩) (fun z => absurd ⟨n22.1, hc⟩ z))) (fun z => absurd ⟨ht.1, by omega⟩ z), fun z => absurd (show μ 249 1 < μ 39 4 by omega) z⟩, fun z => absurd z (by decide)⟩) (fun z => absurd hv z)⟩⟩
            have hO2 : ∀ A : xM, asame (sitM μ 249 t v) A → iOpen A ∨ True := fun _ _ => Or.inr trivial
            have y14 : wi (wi (wi (sitM μ 249 t v) 0 18 0) 260 0 0) 260 11 0 260 14 = 1 := h14
            intro _ _ _
            refine s_good (fun _ => ?_)
            intro _ _
            refine ⟨fun z => absurd (h14.symm.trans z) (by decide), fun _ => ⟨⟨by show -2147483648 ≤ μ 263 0 - 1; omega, by show μ 263 0 - 1 ≤ 2147483647; omega⟩, s_within (fun _ _ _ _ => ⟨fun z => absurd z (by decide), fun _ _ _ => ⟨fun z => absurd z (by decide), fun _ => ?_⟩⟩) (fun z => absurd ⟨ht.1, show t ≤ μ 263 0 - 1 by omega⟩ z)⟩⟩
            intro _ _
            refine ⟨fun z => absurd (h14.symm.trans z) (by decide), fun _ => ⟨⟨by show -2147483648 ≤ μ 263 3 - 1; omega, by show μ 263 3 - 1 ≤ 2147483647; omega⟩, s_within (fun _ _ _ _ => ⟨fun z => absurd z (by decide), fun _ _ _ => ⟨fun _ => ?_, fun z => absurd z (by decide)⟩⟩) (fun z => absurd ⟨v0, show v ≤ μ 263 3 - 1 by omega⟩ z)⟩⟩
            refine ⟨fun _ => ?_, fun z => absurd (show μ 265 4 = μ 263 4 from z) (by omega)⟩
            intro _
            refine ⟨?_, fun _ _ => ⟨⟨by show 0 ≤ 295 + μ 265 4; omega, by show 295 + μ 265 4 < 322; omega⟩, ?_⟩⟩
            · show xIn (μ 265 0 + 25 * μ 265 1 + 625 * μ 265 2)
              unfold k3 at a0 a1 a2; unfold xIn; omega
            · have kp := pk_k3 (t := t) a0 a1 a2
              have e : μ 267 ((24 * pk (μ 265 0) (μ 265 1) (μ 265 2) t + v).toNat) = μ 263 ((295 + μ 265 4).toNat) := by
                rw [show (295 + μ 265 4).toNat = 295 + (μ 249 1).toNat by omega, ← hb, ← hpk ht.1 (by omega), ← (h.2.2.2.2.2.1 (pk (μ 265 0) (μ 265 1) (μ 265 2) t).toNat v.toNat (by unfold k3 at kp; omega) (by omega)).1]
                congr 1; unfold k3 at kp; omega
              intro _ _ _ _ _
              refine r_wordOf a0 a1 a2 (fun _ _ => ⟨⟨show 0 ≤ 24 * pk (μ 265 0) (μ 265 1) (μ 265 2) t + v by unfold k3 at kp; omega, show 24 * pk (μ 265 0) (μ 265 1) (μ 265 2) t + v < 600 by unfold k3 at kp; omega⟩, fun z => absurd e z, fun _ => r_withWord a0 a1 a2 ⟨v0, by omega⟩ (fun _ _ _ _ => ⟨fun _ => ?_, fun z => absurd (wt_rng a0 a1 a2 ⟨v0, by omega⟩).1 z⟩)⟩)
              exact fin
          · intro _ _ _
            refine ⟨fun z => by omega, fun _ => ⟨fun z => by omega, fun _ => k_word h (fun _ _ _ => ⟨fun _ => ⟨fun _ => s_at (fun _ _ _ _ => k_letterOf h (kt ht.1 (by omega)).1 (Int.lt_of_le_of_lt (kt ht.1 (by omega)).2 (by decide)) v0 (by omega) (fun _ _ => k_first h (fun _ _ _ _ => ⟨fun z => absurd z hb, fun _ => s_denied (fun _ _ _ _ => ?_)⟩) (fun z => absurd ⟨n22.1, hc⟩ z))) (fun z => absurd ⟨ht.1, by omega⟩ z), fun z => absurd (show μ 249 1 < μ 39 4 by omega) z⟩, fun z => absurd z (by decide)⟩) (fun z => absurd hv z)⟩⟩
            intro _ _ _
            refine s_good (fun _ => r_table (iOpen_m h _) (m_263 μ _) (fun _ _ _ _ => ⟨fun z => absurd z (by decide), fun _ => r_word (iOpen_m h _) (m_263 μ _) (fun _ _ _ => ⟨fun _ => ⟨fun _ => r_code (iOpen_m h 5).2.2.2.1.1 (fun _ _ => ⟨⟨by show 0 ≤ 295 + μ 265 4; omega, by show 295 + μ 265 4 < 322; omega⟩, r_wordAfter (iOpen_m h _) (m_263 μ _) a0 a1 a2 v0 (by omega) (fun z => ?_) (fun _ _ _ => ⟨fun z => absurd z (by decide), fun _ => s_isNot (fun _ _ _ _ => ⟨rfl, K_no (hK 5 (by decide))⟩)⟩)⟩), fun z => absurd (show μ 265 4 = μ 263 4 from z) (by omega)⟩, fun z => absurd z (by decide)⟩) (fun z => absurd hv z)⟩) (fun z => absurd ht z))
            exfalso
            apply hb
            have z2 : byF (μ 263) (pk (μ 265 0) (μ 265 1) (μ 265 2) t).toNat v.toNat = μ 263 ((295 + μ 265 4).toNat) := z
            rw [show (295 + μ 265 4).toNat = 295 + (μ 249 1).toNat by omega, hpk ht.1 (by omega)] at z2
            exact z2
        · intro _ _ _
          refine ⟨fun z => by omega, fun _ => ⟨fun z => by omega, fun _ => k_word h (fun _ _ _ => ⟨fun _ => ⟨fun z => absurd (show μ 249 1 < μ 39 4 from z) (by omega), fun _ => s_denied (fun _ _ _ _ => ?_)⟩, fun z => absurd z (by decide)⟩) (fun z => absurd hv z)⟩⟩
          intro _ _ _
          exact s_good (fun _ => r_table (iOpen_m h _) (m_263 μ _) (fun _ _ _ _ => ⟨fun z => absurd z (by decide), fun _ => r_word (iOpen_m h _) (m_263 μ _) (fun _ _ _ => ⟨fun _ => ⟨fun z => absurd (show μ 265 4 = μ 263 4 by omega) z, fun _ => s_isNot (fun _ _ _ _ => ⟨rfl, K_no (hK 6 (by decide))⟩)⟩, fun z => absurd z (by decide)⟩) (fun z => absurd hv z)⟩) (fun z => absurd ht z))
      · intro _ _ _
        refine ⟨fun z => by omega, fun _ => ⟨fun z => by omega, fun _ => k_word h (fun z => absurd z hv) (fun _ _ _ => ⟨fun z => absurd z (by decide), fun _ => s_denied (fun _ _ _ _ => ?_)⟩)⟩⟩
        intro _ _ _
        exact s_good (fun _ => r_table (iOpen_m h _) (m_263 μ _) (fun _ _ _ _ => ⟨fun z => absurd z (by decide), fun _ => r_word (iOpen_m h _) (m_263 μ _) (fun z => absurd z hv) (fun _ _ _ => ⟨fun z => absurd z (by decide), fun _ => s_isNot (fun _ _ _ _ => ⟨rfl, K_no (hK 1 (by decide))⟩)⟩)⟩) (fun z => absurd ht z))
    · have ref : tX11_seat t v (wi μ 0 18 1) (fun r' ν => (r' = 0 ∨ r' = 1) → xRan ν → ((0 = r') ∧ (Inv ν))) := by
        intro _ _ _
        exact s_good (fun _ => r_table (iOpen_m h _) (m_263 μ _) (fun z z2 => absurd ⟨z, z2⟩ ht) (fun _ _ _ => ⟨fun _ => s_isNot (fun _ _ _ _ => ⟨rfl, K_no (hK 1 (by decide))⟩), fun z => absurd z (by decide)⟩))
      intro _ _ _
      refine ⟨fun _ => s_denied (fun _ _ _ _ => ref), fun _ => ⟨fun _ => s_denied (fun _ _ _ _ => ref), fun z => absurd ⟨by omega, by omega⟩ ht⟩⟩
  · have z0 := (h.2.1 0 (by omega)).1
    have ref : tX11_seat t v (wi μ 0 18 1) (fun r' ν => (r' = 0 ∨ r' = 1) → xRan ν → ((0 = r') ∧ (Inv ν))) := by
      intro _ _ _
      exact s_good (fun _ => r_tableS (iShut_m h _) (fun _ _ => ⟨fun _ => s_isNot (fun _ _ _ _ => ⟨rfl, K_no (hK 1 (by decide))⟩), fun z => absurd z (by decide)⟩))
    intro _ _ _
    refine ⟨fun _ => s_denied (fun _ _ _ _ => ref), fun _ => ⟨fun _ => s_denied (fun _ _ _ _ => ref), fun z => absurd (show μ 39 0 ≤ t by omega) z⟩⟩
