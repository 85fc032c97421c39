/-- rung -/
theorem c_9 {sc : Int → Int} {i : Int} {μ : xM} (hi : Inv μ) : tl_9 sc i μ Inv := by
  obtain ⟨w, ew⟩ : ∃ w, w = sc (i + 1) := ⟨_, rfl⟩
  obtain ⟨v, ev⟩ : ∃ w, w = sc (i + 2) := ⟨_, rfl⟩
  obtain ⟨n, en⟩ : ∃ w, w = sc (i + 3) := ⟨_, rfl⟩
  unfold tl_9
  rw [← ew, ← ev, ← en]
  have hK : ∀ a, a ≠ 4 → Inv (tr μ a) := fun a => Inv_tr hi
  rcases hi.os with h | h
  · have bW := h.2.1.W
    have no1 : ¬ (wordF (μ 263) w ∧ wordF (μ 263) v ∧ 0 ≤ n) → tX11_rung w v n (wi μ 0 18 1) (fun r' ν => (xIn r') → xRan ν → ((-1 = r') ∧ (Inv ν))) := by
      intro q _ _ _ _
      refine s_good (fun _ => ⟨fun c => r_pairWhy (iOpen_m h _) (m_263 μ _) (fun _ _ _ _ => ⟨⟨by decide, by decide⟩, fun z => absurd z (by decide), fun _ => s_no (fun _ _ _ _ => ⟨rfl, K_no (hK 1 (by decide))⟩)⟩) (fun a b => absurd ⟨a, b, c⟩ q) (fun a b => absurd ⟨a.1, b.1, c⟩ q), fun c _ => ⟨⟨by decide, by decide⟩, fun z => absurd z (by decide), fun _ => s_no (fun _ _ _ _ => ⟨rfl, K_no (hK 1 (by decide))⟩)⟩⟩)
    have no5 : wordF (μ 263) w → wordF (μ 263) v → 0 ≤ n → ¬ (goodI (μ 263) w ∧ goodI (μ 263) v) → tX11_rung w v n (wi μ 0 18 5) (fun r' ν => (xIn r') → xRan ν → ((-1 = r') ∧ (Inv ν))) := by
      intro q1 q2 q3 q _ _ _ _
      exact s_good (fun _ => ⟨fun c => r_pairWhy (iOpen_m h _) (m_263 μ _) (fun z => absurd ⟨q1, q2⟩ z) (fun _ _ _ _ _ _ => ⟨⟨by decide, by decide⟩, fun z => absurd z (by decide), fun _ => s_no (fun _ _ _ _ => ⟨rfl, K_no (hK 5 (by decide))⟩)⟩) (fun a b => absurd ⟨a, b⟩ q), fun c => absurd q3 c⟩)
    intro _ _ _ _
    refine k_word h (fun q1 _ _ => ⟨fun z => absurd z (by decide), fun _ => k_word h (fun q2 _ _ => ⟨fun z => absurd z (by decide), fun _ => ⟨fun n0 => k_good h (fun g1 _ _ => ⟨fun z => absurd z (by decide), fun _ => k_good h (fun g2 _ _ => ⟨fun _ => s_measure h g2 (fun ν f d b _ => ?_), fun z => absurd z (by decide)⟩) (fun g2 _ _ => ⟨fun z => absurd z (by decide), fun _ => s_refused (fun _ _ _ _ => no5 q1 q2 n0 (fun z => g2 z.2))⟩)⟩) (fun g1 _ _ => ⟨fun _ => s_refused (fun _ _ _ _ => no5 q1 q2 n0 (fun z => g1 z.1)), fun z => absurd z (by decide)⟩), fun n0 => s_refused (fun _ _ _ _ => no1 (fun z => n0 z.2.2))⟩⟩) (fun q2 _ _ => ⟨fun _ => s_refused (fun _ _ _ _ => no1 (fun z => q2 z.2.1)), fun z => absurd z (by decide)⟩)⟩) (fun q1 _ _ => ⟨fun _ => s_refused (fun _ _ _ _ => no1 (fun z => q1 z.1)), fun z => absurd z (by decide)⟩)
    have w0 := q1.1; have w1 := q1.2; have v0 := q2.1; have v1 := q2.2
    have e3 : ν 263 = μ 263 := f 263 (by omega) (by omega)
    have hO := far_o h f
    have d' : isDist (adjF (ν 263)) (ν 263 3).toNat v.toNat (ν 209) := by rw [e3]; exact d
    have b' : ∀ u : Nat, (u : Int) < ν 263 3 → ν 209 u < 24 := fun u hu => b u (by rw [e3] at hu; exact hu)
    -- the reference behind it, with trouble a
    have ref : ∀ (a r : Int), (0 ≤ ν 209 w.toNat → n ≤ ν 209 w.toNat → a = 0 ∧ ∃ x : Nat, r = x ∧ isAt (ν 263) (ν 209) w.toNat n.toNat x) → (0 ≤ ν 209 w.toNat → ¬ n ≤ ν 209 w.toNat → a = 1 ∧ r = -1) → (¬ 0 ≤ ν 209 w.toNat → a = 6 ∧ r = -1) → tX11_rung w v n (wi ν 0 18 a) (fun r' ω => (xIn r') → xRan ω → ((r = r') ∧ (Inv ω))) := by
      intro a r r1 r2 r3 _ _ _ _
      refine s_good (fun _ => ⟨fun c => r_pairWhy (iOpen_m hO _) (R := μ 263) e3 (fun z => absurd ⟨q1, q2⟩ z) (fun _ _ z => absurd ⟨g1, g2⟩ z) (fun _ _ _ _ => ?_), fun c => absurd n0 c⟩)
      intro _
      refine ⟨⟨by decide, by decide⟩, fun _ => r_layFar (iOpen_m hO _) v0 (show v < ν 263 3 by rw [e3]; exact v1) (F := ν 209) d' b' (fun ω o1 o2 o3 _ => ?_), fun z => absurd rfl z⟩
      have o := o2 w.toNat (show (w.toNat : Int) < ν 263 3 by rw [e3]; omega)
      have o7 : ω 267 = ν 267 := o1 267 (by omega)
      have fno : ∀ k, k ≠ 271 → wi ω 260 11 a k = tr ν a k := by
        intro k hk
        have := o1 k hk
        funext j
        simp only [wi, tr]
        by_cases y : k = 260 ∧ j = 11
        · simp [y]
        · rw [if_neg y, this]
          show (if k = 260 ∧ j = 11 then _ else _) = _
          rw [if_neg y, if_neg y]
          rfl
      have ft : a = 0 → ∀ k, k ≠ 271 → ω k = tr ν a k := by
        rintro rfl k hk
        exact o1 k hk
      rw [o]
      refine ⟨⟨w0, by omega⟩, fun z => ⟨fun y => ?_, fun y => ?_⟩, fun z => ?_⟩
      · obtain ⟨a0, x, rfl, hx⟩ := r1 z y
        subst a0
        refine rd2b (n := n) (fun k x => ∃ u : Nat, x = u ∧ (u : Int) < ν 263 3 ∧ isAt (ν 263) (ν 209) w.toNat k.toNat u ∧ ν 209 u = ν 209 w.toNat - k) n0 ⟨w.toNat, by omega, by rw [e3]; omega, rfl, by omega⟩ ?_
        rintro k y2 K k0 k1 ⟨u, rfl, a1, a2, a3⟩ hK2
        have bw := b' w.toNat (by rw [e3]; omega)
        have ul : (u : Int) < 24 := by rw [e3] at a1; omega
        refine ⟨⟨by omega, by omega⟩, fun c => ⟨⟨by omega, by omega⟩, fun _ _ => ⟨?_, far_fin (a := 0) hi (by decide) f (ft rfl)⟩⟩, fun c => ?_⟩
        · rw [show k = n by omega] at a2
          rw [isAt_u _ _ _ hx a2]
        · obtain ⟨m, hm⟩ := isNx_ex (by rw [e3]; exact h.2.1) d' a1 (by omega)
          have ml : (m : Int) < 24 := by have := hm.1; rw [e3] at this; omega
          have ou := o2 u a1
          refine rd1 (n := (m : Int)) (fun x => True) (by omega) trivial ?_
          intro x K3 x0 x1 _ hK3
          have eb1 : ω 267 ((24 * (u : Int) + x).toNat) = byF (ν 263) u x.toNat := by
            rw [o7, ← (hO.2.2.2.2.2.1 u x.toNat (by omega) (by omega)).1]
            congr 1; omega
          have eb2 : ω 267 ((24 * x + (u : Int)).toNat) = byF (ν 263) x.toNat u := by
            rw [o7, ← (hO.2.2.2.2.2.1 x.toNat u (by omega) (by omega)).1]
            congr 1; omega
          rw [eb1, eb2, Int.toNat_natCast, ou]
          have ox : ω 271 x.toNat = ν 209 x.toNat := o2 x.toNat (show (x.toNat : Int) < ν 263 3 by have := hm.1; omega)
          rw [ox]
          have nm : x = m → ∀ {p : Prop}, (adjF (ν 263) u m ∧ ν 209 m = ν 209 u - 1 → p) → p := fun _ _ q => q ⟨hm.2.1, hm.2.2.1⟩
          have go : adjF (ν 263) u x.toNat → ν 209 x.toNat = ν 209 u - 1 → K x (k + 1) ω := by
            intro p1 p2
            have xm : x = m := by
              rcases Int.lt_or_le x m with q | q
              · exact absurd ⟨p1, p2⟩ (hm.2.2.2 x.toNat (by omega))
              · omega
            refine hK2 _ (by omega) ⟨m, xm, hm.1, ?_, ?_⟩
            · rw [show (k + 1).toNat = k.toNat + 1 by omega]; exact ⟨u, a2, hm⟩
            · rw [hm.2.2.1]; omega
          have more : ¬ (adjF (ν 263) u x.toNat ∧ ν 209 x.toNat = ν 209 u - 1) → K3 (x + 1) ω := by
            intro p
            refine hK3 ?_ trivial
            rcases Int.lt_or_le x m with q | q
            · exact q
            · exfalso
              have : x.toNat = m := by omega
              rw [this] at p
              exact p ⟨hm.2.1, hm.2.2.1⟩
          refine ⟨⟨x0, by omega⟩, ⟨by omega, by omega⟩, ⟨by omega, by omega⟩, fun p => more (fun q => p q.2), fun p => ⟨⟨by omega, by omega⟩, fun p2 => go (Or.inl p2) p, fun p2 => ⟨⟨by omega, by omega⟩, fun p3 => go (Or.inr p3) p, fun p3 => more (fun q => ?_)⟩⟩⟩
          rcases q.1 with q | q
          · exact p2 q
          · exact p3 q
      · obtain ⟨rfl, rfl⟩ := r2 z y
        exact s_no (fun _ _ _ _ => ⟨rfl, far_fin (a := 1) hi (by decide) f fno⟩)
      · obtain ⟨rfl, rfl⟩ := r3 z
        exact s_no (fun _ _ _ _ => ⟨rfl, far_fin (a := 6) hi (by decide) f fno⟩)
    refine s_farOf w0 (by omega) (fun _ _ => ⟨fun z => ⟨fun y => s_after hO w0 (by rw [e3]; exact w1) d' b' n0 y (fun x hx _ _ => s_granted (fun _ _ _ _ => ref 0 _ (fun _ _ => ⟨rfl, x, rfl, hx⟩) (fun _ q => absurd y q) (fun q => absurd z q))), fun y => s_refused (fun _ _ _ _ => ref 1 _ (fun _ q => absurd q y) (fun _ _ => ⟨rfl, rfl⟩) (fun q => absurd z q))⟩, fun z => s_refused (fun _ _ _ _ => ref 6 _ (fun q => absurd q z) (fun q => absurd q z) (fun _ => ⟨rfl, rfl⟩))⟩)
  · intro _ _ _ _
    refine k_wordS h (fun _ _ => ⟨fun _ => s_refused (fun _ _ _ _ => ?_), fun z => absurd z (by decide)⟩)
    intro _ _ _ _
    refine s_good (fun _ => ⟨fun c => ?_, fun c _ => ⟨⟨by decide, by decide⟩, fun z => absurd z (by decide), fun _ => s_no (fun _ _ _ _ => ⟨rfl, K_no (hK 1 (by decide))⟩)⟩⟩)
    intro _ _ _
    exact r_wordS (iShut_m h _) (fun _ _ => ⟨fun _ _ _ _ => ⟨⟨by decide, by decide⟩, fun z => absurd z (by decide), fun _ => s_no (fun _ _ _ _ => ⟨rfl, K_no (hK 1 (by decide))⟩)⟩, fun z => absurd z (by decide)⟩)
