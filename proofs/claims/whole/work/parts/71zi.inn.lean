/-! inn: what is left after it -/
theorem Inv_bad {μ M : xM} (hi : Inv μ) (hk : ∀ k, 38 < k → k ≠ 260 → k ≠ 262 → k ≠ 264 → M k = μ k) (h0 : ∀ j, j ≠ 18 → M 0 j = μ 0 j) (h26 : ∀ j, j ≠ 0 → ¬ (2 ≤ j ∧ j ≤ 11) → j ≠ 13 → M 260 j = μ 260 j) (t0 : M 35 0 = 0) (t2 : M 260 2 = 0) (e1 : M 35 1 = M 260 9) (e2 : M 35 2 = M 260 10) (e18 : M 0 18 = M 260 11) (b : b30 M) : Inv M := by
  have r : ∀ k, 38 < k → k < 260 → M k = μ k := fun k a c => hk k a (by omega) (by omega) (by omega)
  refine ⟨⟨t0.trans t2.symm, by omega, by omega, fun i hi => by omega⟩, ⟨e1, e18, fun _ => e2⟩, ?_, ?_⟩
  · have q := hi.2.2.1
    unfold iBase at *
    rw [r 232 (by omega) (by omega), r 233 (by omega) (by omega), r 234 (by omega) (by omega), r 236 (by omega) (by omega)]
    exact ⟨q.1, q.2.1, q.2.2.1, b⟩
  · rcases hi.2.2.2 with ⟨h, c⟩ | h
    · have w := iOpW_c (h26 14 (by omega) (by omega) (by omega)) (fun k hk2 => hk k (by omega) (by omega) (by omega) (by omega)) h.w
      have N : iNights M := nights_keep h.2.2.2.1 (iNight_c (r 249 (by omega) (by omega)) (r 250 (by omega) (by omega)) (hk 265 (by omega) (by omega) (by omega) (by omega)) (hk 263 (by omega) (by omega) (by omega) (by omega)) h.2.2.2.1.1) (h0 17 (by omega)) (h26 19 (by omega) (by omega) (by omega)) (fun k a c => r k (by omega) (by omega)) (hk 266 (by omega) (by omega) (by omega) (by omega)) (hk 263 (by omega) (by omega) (by omega) (by omega))
      exact Or.inl ⟨⟨w.1, w.2.1, w.2.2.1, N, w.2.2.2.2⟩, iCache_c (fun k hk2 => hk k (by omega) (by omega) (by omega) (by omega)) c⟩
    · refine Or.inr ?_
      unfold iShut at *
      rw [h26 14 (by omega) (by omega) (by omega), r 39 (by omega) (by omega), hk 263 (by omega) (by omega) (by omega) (by omega), r 249 (by omega) (by omega), h0 17 (by omega), h26 19 (by omega) (by omega) (by omega), r 67 (by omega) (by omega)]
      exact h
def cpS (ω A : xM) : Prop := (∀ k, k < 39 ∨ 72 < k ∨ k = 67 → A k = ω k) ∧ (∀ j : Nat, j < 7 → A 39 j = ω 1 j) ∧ (∀ w : Nat, w < 24 → A 40 w = ω 2 w ∧ A 41 w = ω 3 w ∧ A 68 w = ω 30 w ∧ ∀ i : Nat, i < 6 → A (43 + w) i = ω (5 + w) i) ∧ (∀ j : Nat, j < 8 → A 69 j = ω 31 j) ∧ (∀ j : Nat, j < 6 → A 70 j = ω 32 j ∧ A 71 j = ω 33 j ∧ A 72 j = ω 34 j)
theorem s_copy7 {ω : xM} {Q : xM → Prop} (b : b30 ω) (hq : ∀ A, cpS ω A → Q A) : tX2_copyFrom 39 1 ω Q := by
  intro _
  refine wl fun _ => wl fun _ => wl fun _ => wl fun _ => wl fun _ => wl fun _ => wl fun _ => ?_
  obtain ⟨C, eC⟩ : ∃ C, C = wi (wi (wi (wi (wi (wi (wi ω 39 0 (ω 1 0)) 39 1 (ω 1 1)) 39 2 (ω 1 2)) 39 3 (ω 1 3)) 39 4 (ω 1 4)) 39 5 (ω 1 5)) 39 6 (ω 1 6) := ⟨_, rfl⟩
  have Ck : ∀ k, k ≠ 39 → C k = ω k := fun k hk => by rw [eC]; funext j; simp [wi, hk]
  have C39 : ∀ j : Nat, j < 7 → C 39 j = ω 1 j := fun j hj => by
    rw [eC]
    rcases (show j = 0 ∨ j = 1 ∨ j = 2 ∨ j = 3 ∨ j = 4 ∨ j = 5 ∨ j = 6 by omega) with rfl | rfl | rfl | rfl | rfl | rfl | rfl <;> rfl
  refine up1 (n := 24) (fun i D => (∀ k, k < 40 ∨ 68 < k ∨ k = 67 → D k = C k) ∧ ∀ w : Nat, (w : Int) < i → D 40 w = ω 2 w ∧ D 41 w = ω 3 w ∧ D 68 w = ω 30 w ∧ ∀ i : Nat, i < 6 → D (43 + w) i = ω (5 + w) i) (by omega) ⟨fun k _ => by rw [eC]; rfl, fun w hw => by omega⟩ ?_
  rintro i D K i0 i1 ⟨Dk, D0⟩ _ hK
  obtain ⟨i, rfl⟩ : ∃ m : Nat, i = m := ⟨i.toNat, by omega⟩
  have Dl : ∀ k, k < 39 → D k = ω k := fun k hk => by rw [Dk k (by omega), Ck k (by omega)]
  refine ⟨⟨by omega, by omega⟩, fun z => wl fun _ => wl fun _ => wl fun _ => wl fun _ => hq _ ⟨fun k hk => ?_, fun j hj => ?_, fun w hw => ?_, fun j hj => ?_, fun j hj => ⟨?_, ?_, ?_⟩⟩, fun z => ⟨⟨by omega, by omega⟩, ?_⟩⟩
  · rw [← Ck k (by omega), ← Dk k (by omega)]; funext j
    simp only [cpM]
    rw [if_neg (by omega), if_neg (by omega), if_neg (by omega), if_neg (by omega)]
  · rw [← C39 j hj, ← Dk 39 (by omega)]; simp [cpM]
  · have := D0 w (by omega)
    have f : ∀ k, k < 69 → ∀ j, cpM (cpM (cpM (cpM D (1 + 30) (39 + 30) 8) (1 + 31) (39 + 31) 6) (1 + 32) (39 + 32) 6) (1 + 33) (39 + 33) 6 k j = D k j := fun k hk j => by
      simp only [cpM]
      rw [if_neg (by omega), if_neg (by omega), if_neg (by omega), if_neg (by omega)]
    rw [f 40 (by omega), f 41 (by omega), f 68 (by omega)]
    exact ⟨this.1, this.2.1, this.2.2.1, fun i hi => by rw [f (43 + w) (by omega)]; exact this.2.2.2 i hi⟩
  · rw [← Dl 31 (by omega)]; simp [cpM, hj]
  · rw [← Dl 32 (by omega)]; simp [cpM, hj]
  · rw [← Dl 33 (by omega)]; simp [cpM, hj]
  · rw [← Dl 34 (by omega)]; simp [cpM, hj]
  · rw [Int.toNat_natCast]
    refine wl fun _ => wl fun _ => ⟨?_, wl fun _ => ⟨⟨by omega, by omega⟩, wl fun _ => hK _ (by omega) ⟨fun k hk => ?_, fun w hw => ?_⟩⟩⟩
    · rw [wi_cell (by omega), wi_cell (by omega), Dl (1 + 29) (by omega)]; exact b i (by omega)
    · rw [← Dk k hk]; funext j
      simp only [cpM]
      rw [if_neg (by omega), wi_cell (by omega), wi_cell (by omega), wi_cell (by omega)]
    · simp only [cpM]
      have l2 : D (1 + 1) i = ω 2 i := congrFun (Dl 2 (by omega)) i
      have l3 : D (1 + 2) i = ω 3 i := congrFun (Dl 3 (by omega)) i
      have l30 : D (1 + 29) i = ω 30 i := congrFun (Dl 30 (by omega)) i
      by_cases y : w = i
      · subst y
        refine ⟨?_, ?_, ?_, fun j hj => ?_⟩
        · rw [if_neg (by omega), wi_cell (by omega), wi_cell (by omega)]
          show wi D 40 w _ 40 w = _
          rw [wi_self]; exact l2
        · rw [if_neg (by omega), wi_cell (by omega)]
          show wi _ 41 w _ 41 w = _
          rw [wi_self, wi_cell (by omega)]; exact l3
        · rw [if_neg (by omega)]
          show wi _ 68 w _ 68 w = _
          rw [wi_self, wi_cell (by omega), wi_cell (by omega)]; exact l30
        · rw [if_pos (by omega), wi_cell (by omega), wi_cell (by omega), wi_cell (by omega), show 1 + 4 + w = 5 + w by omega, Dl (5 + w) (by omega)]
      · have q := D0 w (by omega)
        refine ⟨?_, ?_, ?_, fun j hj => ?_⟩
        · rw [if_neg (by omega), wi_cell (by omega), wi_cell (by omega)]
          show wi D 40 i _ 40 w = _
          rw [wi_place y]; exact q.1
        · rw [if_neg (by omega), wi_cell (by omega)]
          show wi _ 41 i _ 41 w = _
          rw [wi_place y, wi_cell (by omega)]; exact q.2.1
        · rw [if_neg (by omega)]
          show wi _ 68 i _ 68 w = _
          rw [wi_place y, wi_cell (by omega), wi_cell (by omega)]; exact q.2.2.1
        · rw [if_neg (by omega), wi_cell (by omega), wi_cell (by omega), wi_cell (by omega)]; exact q.2.2.2 j hj
theorem iHo_copy {T : Nat → Int} {n : Nat} {X : Nat → Int} {ω A : xM} (c : cD T n X ω) (hR : okR X) (s : cpS ω A) (h67 : ∀ i : Nat, i < 6 → ω 67 i = -1) : iHo A X := by
  have bW := hR.W
  have bN := hR.N
  have bK := hR.K
  have bS := hR.S
  refine ⟨hR, fun j hj => ?_, fun w hw hw2 => ?_, fun i hi => ?_, fun g hg => ?_, fun i hi => ?_, fun i hi => ?_⟩
  · rw [s.2.1 j hj]
    have q := c.2.2.1 (by have := hR.T; omega)
    rcases (show j = 0 ∨ j = 1 ∨ j = 2 ∨ 3 ≤ j by omega) with rfl | rfl | rfl | h3
    · exact q.1
    · exact q.2.1
    · exact q.2.2
    · exact c.2.1 j h3 hj
  · have q := c.2.2.2.2.2.1 w hw2
    have r := s.2.2.1 w hw
    exact ⟨r.1.trans q.1, r.2.1.trans q.2.1, r.2.2.1.trans q.2.2.1, fun i hi => (r.2.2.2 i hi).trans (q.2.2.2 i hi)⟩
  · rw [s.1 67 (by omega)]; exact h67 i hi
  · rw [s.2.2.2.1 g (by omega)]; exact (c.2.2.2.2.2.2.1 g hg).1
  · have q := c.2.2.2.2.2.2.2.1 i hi
    exact ⟨((s.2.2.2.2 i (by omega)).1).trans q.1, ((s.2.2.2.2 i (by omega)).2.1).trans q.2⟩
  · rw [(s.2.2.2.2 i (by omega)).2.2]; exact c.2.2.2.2.2.2.2.2 i hi
theorem Inv_new {A B M : xM} {X : Nat → Int} (hR : okR X) (hc : cGrow M X) (hr : rGrow M X) (ho : iHo M X) (e263 : M 263 = X) (rn : rnw A B) (rk : ∀ k, 211 ≤ k → k < 235 → M k = B k) (hb : iBase M) (t0 : M 35 0 = 0) (t2 : M 260 2 = 0) (e1 : M 35 1 = M 260 9) (e18 : M 0 18 = 0) (e11 : M 260 11 = 0) (e14 : M 260 14 = 1) (e17 : M 0 17 = 0) (e19 : M 260 19 = 0)
    (n1 : M 249 0 = 0 ∧ M 249 1 = 0 ∧ M 249 2 = 0 ∧ ∀ t : Nat, t < 3 → M 250 t = 24) (n2 : M 265 3 = 0 ∧ M 265 4 = 0 ∧ M 265 5 = 0 ∧ ∀ t : Nat, t < 3 → M 265 t = 24) : Inv M := by
  have hR2 : okR (M 263) := by rw [e263]; exact hR
  refine ⟨⟨t0.trans t2.symm, by omega, by omega, fun i hi => by omega⟩, ⟨e1, e18.trans e11.symm, fun z => by omega⟩, hb, Or.inl ⟨⟨e14, hR2, ?_, ?_, iGrow_of hR2 (by rw [e263]; exact hc) (by rw [e263]; exact hr)⟩, ?_⟩⟩
  · unfold iHouse
    rw [e263]; exact ho.2
  · refine ⟨iNight_begin (fun t ht => ?_) ?_ ?_ n1.2.1 n2.2.1 n1.2.2.1 n2.2.2.1 (by have := hR2.N; omega), ?_⟩
    · rw [Nat.zero_add]; exact ⟨n1.2.2.2 t ht, n2.2.2.2 t ht⟩
    · rw [n1.1]; exact n2.1.symm
    · rw [n1.1]; decide
    · rw [e17, e19]
      exact ⟨rfl, by decide, by decide, fun i _ z => by omega⟩
  · obtain ⟨_, _, _, a, b, c, d, e, f⟩ := rn
    refine ⟨fun z => ?_, fun z => ?_, fun z => ?_, fun j hj z => ?_, fun x y z h1 h2 h3 _ g _ => ?_, fun x y z h1 h2 h3 _ k hk => ?_⟩
    · rw [rk 211 (by omega) (by omega)] at z; exact absurd a z
    · rw [rk 216 (by omega) (by omega)] at z; exact absurd b z
    · rw [rk 221 (by omega) (by omega)] at z; exact absurd c z
    · rw [rk 231 (by omega) (by omega), d j hj] at z; omega
    · left
      rw [rk 233 (by omega) (by omega), e _ (slotN_lt h1 h2 h3)]; exact nib_zero g
    · left
      rw [rk 234 (by omega) (by omega)]
      exact f _ (by have := slotN_lt h1 h2 h3; omega)
