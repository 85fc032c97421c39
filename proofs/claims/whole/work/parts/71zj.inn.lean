theorem linesP_ok {T : Nat → Int} {n : Nat} {q : (Nat → Int) × Nat} : ∀ (m : Nat) (X : Nat → Int) (a : Nat), linesP T n m X a = .inr q → q.1 0 ≠ 0 ∧ q.1 3 ≠ 0 ∧ q.1 4 ≠ 0 := by
  intro m
  induction m with
  | zero => intro X a h; exact absurd h (by intro z; cases z)
  | succ m ih =>
    intro X a h
    cases hL : lineP T n X a with
    | inl p =>
      simp only [linesP, hL] at h
      cases h
    | inr p =>
      simp only [linesP, hL] at h
      by_cases k3 : tkK T n p.2 = 3
      · rw [cI_y k3] at h; exact ih _ _ h
      · rw [cI_n k3] at h
        unfold endP at h
        by_cases k0 : tkK T n p.2 = 0
        · rw [cI_y k0] at h
          by_cases c : p.1 0 = 0 ∨ p.1 3 = 0 ∨ p.1 4 = 0
          · rw [cI_y c] at h; cases h
          · rw [cI_n c] at h
            have e : (p.1, p.2) = q := Sum.inr.inj h
            rw [← e]
            exact ⟨fun z => c (Or.inl z), fun z => c (Or.inr (Or.inl z)), fun z => c (Or.inr (Or.inr z))⟩
        · rw [cI_n k0] at h; cases h
theorem okR_ext {X R : Nat → Int} (h : ∀ k, k < 322 → R k = X k) (o : okR X) : okR R := by
  have bW := o.W
  have bN := o.N
  have bK := o.K
  have bS := o.S
  refine ⟨by rw [h 0 (by omega)]; exact o.T, by rw [h 1 (by omega)]; exact o.C, by rw [h 2 (by omega)]; exact o.G, by rw [h 3 (by omega)]; exact o.W, by rw [h 4 (by omega)]; exact o.N, by rw [h 5 (by omega)]; exact o.K, by rw [h 6 (by omega)]; exact o.S, fun w hw => ?_, fun w hw => ?_, fun w hw => ?_, fun w hw => ?_⟩
  · rw [h 3 (by omega)] at hw
    have bl := o.len hw
    rw [h (7 + w) (by omega), h (175 + w) (by omega), h (199 + w) (by omega)]
    exact ⟨o.len hw, o.val hw, o.bar hw, fun j hj => by rw [h (31 + 6 * w + j) (by omega)]; exact o.let hw hj⟩
  · rw [h 4 (by omega)] at hw
    rw [h (295 + w) (by omega)]; exact o.fst hw
  · rw [h 5 (by omega)] at hw
    rw [h (303 + w) (by omega), h (309 + w) (by omega)]; exact o.lik hw
  · rw [h 6 (by omega)] at hw
    rw [h (315 + w) (by omega), h 3 (by omega)]; exact o.see hw
theorem iHo_ext {A : xM} {X R : Nat → Int} (h : ∀ k, k < 322 → R k = X k) (ho : iHo A X) : iHo A R := by
  obtain ⟨o, c1, c2, c3, c4, c5, c6⟩ := ho
  have bW := o.W
  have bN := o.N
  have bK := o.K
  have bS := o.S
  refine ⟨okR_ext h o, fun j hj => by rw [h j (by omega)]; exact c1 j hj, fun w hw hw2 => ?_, c3, fun w hw => ?_, fun w hw => ?_, fun w hw => ?_⟩
  · rw [h 3 (by omega)] at hw2
    have bl := o.len hw2
    have q := c2 w hw hw2
    rw [h (7 + w) (by omega), h (175 + w) (by omega), h (199 + w) (by omega)]
    refine ⟨q.1, q.2.1, q.2.2.1, fun j hj => ?_⟩
    rw [q.2.2.2 j hj, h (31 + 6 * w + j) (by omega)]
  · rw [h 4 (by omega)] at hw
    rw [h (295 + w) (by omega)]; exact c4 w hw
  · rw [h 5 (by omega)] at hw
    rw [h (303 + w) (by omega), h (309 + w) (by omega)]; exact c5 w hw
  · rw [h 6 (by omega)] at hw
    rw [h (315 + w) (by omega)]; exact c6 w hw
theorem Inv.r67 {μ : xM} (hi : Inv μ) : ∀ i : Nat, i < 6 → μ 67 i = -1 := by
  rcases hi.os with h | h
  · exact h.2.2.1.2.2.1
  · exact h.2.2.2.2.2.2
/-- inn -/
theorem c_1 {sc : Int → Int} {i : Int} {μ : xM} (hi : Inv μ) : tl_1 sc i μ Inv := by
  obtain ⟨p, ep⟩ : ∃ w, w = sc (i + 1) := ⟨_, rfl⟩
  unfold tl_1
  rw [← ep]
  have hK : ∀ a, a ≠ 4 → Inv (tr μ a) := fun a => Inv_tr hi
  obtain ⟨tp1, tp2, tp3, tp4⟩ := hi.1
  by_cases hp : 0 ≤ p ∧ p ≤ μ 35 0
  rotate_left
  · have ref : tX11_inn p (wi μ 0 18 2) (fun r16 μ14 => (xIn r16) → xRan μ14 → (((-1 : Int) = r16) ∧ Inv μ14)) := by
      intro _ _
      refine s_good (fun _ => s_within (fun a b => absurd ⟨a, ?_⟩ hp) (fun _ _ _ => ⟨fun z => absurd z (by decide), fun _ => s_no (fun _ _ _ _ => ⟨rfl, K_no (hK 2 (by decide))⟩)⟩))
      rw [tp1]; exact b
    intro _ _
    exact ⟨fun z => s_refused (fun _ _ _ _ => ref), fun z => ⟨fun z2 => absurd ⟨by omega, z2⟩ hp, fun z2 => s_refused (fun _ _ _ _ => ref)⟩⟩
  obtain ⟨n, rfl⟩ : ∃ n : Nat, p = n := ⟨p.toNat, by omega⟩
  intro _ _
  refine ⟨fun z => by omega, fun _ => ⟨fun _ => s_inn7 (T := μ 261) hp.2 (by omega) (fun j hj => tp4 j (by omega)) (fun r ω ν0 f0 f1 f2 f3 o _ _ => ?_), fun z => absurd hp.2 z⟩⟩
  have b0 : b30 ν0 := f3 hi.2.2.1.2.2.2
  obtain ⟨O, eO⟩ : ∃ O, O = linesP (μ 261) n (n + 1) (fun _ => 0) (skF (μ 261) n 0) := ⟨_, rfl⟩
  rw [← eO] at o
  cases O with
  | inl q =>
    obtain ⟨rfl, g, e1, e2⟩ := o
    refine ⟨fun z => absurd z (by decide), fun _ => s_refused (fun _ _ _ _ => ?_)⟩
    have Nk : ∀ k, 38 < k → wi ω 0 18 4 k = μ k := fun k hk => by
      rw [← f0 k (by omega), ← g.1 k (by omega)]; funext j; exact wi_cell (by omega)
    refine r_inn7 (T := μ 261) (by rw [Nk 260 (by omega)]; omega) (by rw [Nk 260 (by omega)]; omega) (fun j hj => by rw [Nk 261 (by omega)]; exact ⟨rfl, (tp4 j (by omega)).2⟩) (fun χ ξ k1 k2 k3 k4 k5 o2 => ?_)
    rw [← eO] at o2
    have o3 : flR q.1 q.2 ξ χ := o2
    intro _
    refine ⟨fun z => absurd z o3.d, fun _ => s_no (fun _ _ _ _ => ⟨rfl, ?_⟩)⟩
    have Mk : ∀ k, k ≠ 260 → k ≠ 262 → k ≠ 264 → wi χ 260 11 4 k = wi ω 0 18 4 k := fun k a b c => by
      rw [← k1 k a b c, ← o3.1 k a b c]; funext j; exact wi_cell a
    refine Inv_bad hi (fun k a b c d => by rw [Mk k b c d, Nk k a]) (fun j hj => ?_) (fun j a b c => ?_) ?_ ?_ ?_ ?_ ?_ (fun w hw => ?_)
    · rw [Mk 0 (by omega) (by omega) (by omega), wi_place hj, g.1 0 (by omega), f0 0 (by omega)]
    · rw [wi_place (by omega), o3.2.1 j (by omega) c, k2 j a (by omega) (by omega) c, Nk 260 (by omega)]
    · rw [Mk 35 (by omega) (by omega) (by omega), wi_cell (by omega), g.2.1]; exact f1
    · rw [wi_place (by omega), o3.2.1 2 (by omega) (by omega)]; exact k3
    · rw [Mk 35 (by omega) (by omega) (by omega), wi_cell (by omega), wi_place (by omega), o3.2.2.2.1]; exact e1
    · rw [Mk 35 (by omega) (by omega) (by omega), wi_cell (by omega), wi_place (by omega), o3.2.2.2.2]; exact e2
    · rw [Mk 0 (by omega) (by omega) (by omega), wi_self, wi_self]
    · rw [Mk 30 (by omega) (by omega) (by omega), wi_cell (by omega)]; exact g.2.2 b0 w hw
  | inr q =>
    obtain ⟨rfl, g, c, _⟩ := o
    obtain ⟨X, aX⟩ := q
    have nz := linesP_ok _ _ _ eO.symm
    have hRX : okR X := okP_R c.1 nz.1 nz.2.1 nz.2.2
    have bO : b30 ω := g.1.2.2 b0
    obtain ⟨R, eR⟩ : ∃ R : Nat → Int, R = fun j => if j < 322 then X j else μ 263 j := ⟨_, rfl⟩
    have RX : ∀ k, k < 322 → R k = X k := fun k hk => by rw [eR]; exact if_pos hk
    have hR : okR R := okR_ext RX hRX
    have oK : ∀ k, k = 0 ∨ k = 36 ∨ 38 < k → ω k = μ k := fun k hk => (g.1.1 k hk).trans (f0 k hk)
    refine ⟨fun _ => s_copy7 bO (fun A sA _ => ?_), fun z => absurd z (by decide)⟩
    have hoA : iHo A R := iHo_ext RX (iHo_copy c hRX sA (fun j hj => by rw [oK 67 (by omega)]; exact hi.r67 j hj))
    refine h_weave hoA (fun W w1 w2 => s_settle (iHo_c (fun k _ _ => w1 k (by unfold in75; omega)) hoA) (fun u v a b d e => ?_) (fun S s1 s2 _ _ => s_begin (fun _ => ?_)))
    · rw [w2 u v a b (Or.inl b)]
      unfold wv1
      rw [if_pos ⟨by omega, e⟩]
    have SA : ∀ k, ¬ in75 k → ¬ in101 k → S k = A k := fun k a b => (s1 k b).trans (w1 k a)
    have Sw : ∀ k, (k = 0 ∨ k = 36 ∨ 72 < k) → ¬ in75 k → ¬ in101 k → S k = μ k := fun k a b d => (SA k b d).trans ((sA.1 k (by omega)).trans (oK k (by omega)))
    have S3 : ∀ k, k < 39 → S k = ω k := fun k hk => (SA k (by unfold in75; omega) (by unfold in101; omega)).trans (sA.1 k (by omega))
    have bg : ∀ k, k ≠ 249 → k ≠ 250 → bgM S 249 0 k = S k := fun k a d => by funext j; simp [bgM, fillM, wi, a, d]
    have Ab : iBase (bgM S 249 0) := by
      have q := hi.2.2.1
      unfold iBase at *
      rw [bg 232 (by omega) (by omega), bg 233 (by omega) (by omega), bg 234 (by omega) (by omega), bg 236 (by omega) (by omega), bg 30 (by omega) (by omega), Sw 232 (by omega) (by unfold in75; omega) (by unfold in101; omega), Sw 233 (by omega) (by unfold in75; omega) (by unfold in101; omega), Sw 234 (by omega) (by unfold in75; omega) (by unfold in101; omega), Sw 236 (by omega) (by unfold in75; omega) (by unfold in101; omega), S3 30 (by omega)]
      exact ⟨q.1, q.2.1, q.2.2.1, bO⟩
    refine s_renew Ab (fun B hB _ => ?_)
    have Bk : ∀ k, k ≠ 0 → ¬ (209 ≤ k ∧ k < 251) → B k = S k := fun k a d => (hB.1 k a (by omega) (by omega) (by omega) (by omega)).trans (bg k (by omega) (by omega))
    have hoS : iHo S R := iHo_c (fun k _ _ => SA k (by unfold in75; omega) (by unfold in101; omega)) hoA
    have B4 : B 39 4 = X 4 := by rw [Bk 39 (by omega) (by omega), hoS.2.1 4 (by omega)]; exact RX 4 (by omega)
    intro _ _
    refine wl fun _ _ _ _ _ => ?_
    obtain ⟨N, eN⟩ : ∃ N, N = wi B 0 18 0 := ⟨_, rfl⟩
    rw [← eN]
    have NB : ∀ k, k ≠ 0 → N k = B k := fun k hk => by rw [eN]; funext j; exact wi_cell hk
    have N26 : ∀ k, 260 ≤ k → N k = μ k := fun k hk => by rw [NB k (by omega), Bk k (by omega) (by omega), Sw k (by omega) (by unfold in75; omega) (by unfold in101; omega)]
    refine r_inn7 (T := μ 261) (by rw [N26 260 (by omega)]; omega) (by rw [N26 260 (by omega)]; omega) (fun j hj => by rw [N26 261 (by omega)]; exact ⟨rfl, (tp4 j (by omega)).2⟩) (fun χ ξ k1 k2 k3 k4 k5 o2 => ?_)
    rw [← eO] at o2
    obtain ⟨g2, _, x64, _, z13⟩ := o2
    have χN : ∀ k, k ≠ 260 → k ≠ 262 → k ≠ 264 → χ k = N k := fun k a b d => (g2.1 k a b d).trans (k1 k a b d)
    intro _
    refine ⟨fun _ => ?_, fun z => absurd z13 z⟩
    refine up1 (n := 322) (fun l D => (∀ k, k ≠ 263 → D k = χ k) ∧ ∀ j : Nat, D 263 j = if (j : Int) < l then X j else μ 263 j) (by omega) ⟨fun _ _ => rfl, fun j => by rw [if_neg (by omega), χN 263 (by omega) (by omega) (by omega), N26 263 (by omega)]⟩ ?_
    rintro l D K l0 l1 ⟨Dk, D3⟩ _ hK2
    obtain ⟨l, rfl⟩ : ∃ m : Nat, l = m := ⟨l.toNat, by omega⟩
    refine ⟨⟨by omega, by omega⟩, fun z => wl fun _ => ?_, fun z => ⟨⟨by omega, by omega⟩, wl fun _ => hK2 _ (by omega) ⟨fun k hk => ?_, fun j => ?_⟩⟩⟩
    rotate_left
    · rw [← Dk k hk]; funext j; exact wi_cell hk
    · rw [Int.toNat_natCast]
      by_cases y : j = l
      · rw [y, wi_self, if_pos (by omega), Dk 264 (by omega)]; exact x64 l (by omega)
      · rw [wi_place y, D3 j]
        by_cases y2 : (j : Int) < l
        · rw [if_pos y2, if_pos (by omega)]
        · rw [if_neg y2, if_neg (by omega)]
    have e263 : wi D 260 14 1 263 = R := by
      funext j
      rw [wi_cell (by omega), D3 j, eR]
      show _ = if j < 322 then X j else μ 263 j
      by_cases y : j < 322
      · rw [if_pos y, if_pos (by omega)]
      · rw [if_neg y, if_neg (by omega)]
    refine r_layGrows e263 hR (fun L l1 l2 _ => r_begin (fun _ => wl fun _ _ _ => ?_))
    obtain ⟨M, eM⟩ : ∃ M, M = wi (rbM L 0) 260 19 0 := ⟨_, rfl⟩
    rw [← eM]
    have ML : ∀ k, k ≠ 260 → k ≠ 265 → M k = L k := fun k a b => by rw [eM]; funext j; simp [rbM, wi, fillM, a, b]
    have M26 : ∀ j, j ≠ 19 → M 260 j = L 260 j := fun j hj => by rw [eM]; simp [rbM, wi, fillM, hj]
    have LD : ∀ k, ¬ in267 k → k ≠ 260 → L k = D k := fun k a b => by rw [l1 k a]; funext j; exact wi_cell b
    have MN : ∀ k, k < 260 → M k = N k := fun k hk => by rw [ML k (by omega) (by omega), LD k (by unfold in267; omega) (by omega), Dk k (by omega), χN k (by omega) (by omega) (by omega)]
    have MS : ∀ k, k ≠ 0 → ¬ (209 ≤ k ∧ k < 251) → k < 260 → M k = S k := fun k a b d => by rw [MN k d, NB k a, Bk k a b]
    have m263 : M 263 = R := by rw [ML 263 (by omega) (by omega), l1 263 (by unfold in267; omega)]; exact e263
    have M2 : ∀ j, j ≠ 19 → j ≠ 14 → M 260 j = χ 260 j := fun j a b => by rw [M26 j a, l1 260 (by unfold in267; omega), wi_place b, Dk 260 (by omega)]
    have B249 : ∀ k, k = 249 ∨ k = 250 → M k = bgM S 249 0 k := fun k hk => by rw [MN k (by omega), NB k (by omega), hB.1 k (by omega) (by omega) (by omega) (by omega) (by omega)]
    refine ⟨?_, Inv_new (A := bgM S 249 0) (B := B) hR (cGrow_c hR (fun _ _ => rfl) (fun k a b => MS k (by omega) (by omega) (by omega)) s2) ?_ (iHo_c (fun k a b => MS k (by omega) (by omega) (by omega)) hoS) m263 hB (fun k a b => by rw [MN k (by omega), NB k (by omega)]) ?_ ?_ ?_ ?_ ?_ ?_ ?_ ?_ ?_ ⟨?_, ?_, ?_, fun t ht => ?_⟩ ⟨?_, ?_, ?_, fun t ht => ?_⟩⟩
    · rw [B4, m263]; exact (RX 4 (by omega)).symm
    · unfold rGrow at *
      rw [ML 267 (by omega) (by omega), ML 268 (by omega) (by omega), ML 269 (by omega) (by omega), ML 270 (by omega) (by omega)]; exact l2
    · exact iBase_c (fun k hk => by rw [MN k (by omega), NB k (by omega)]) (by rw [MN 236 (by omega), NB 236 (by omega)]) (by rw [MN 236 (by omega), NB 236 (by omega)]) (rnw_base hB Ab)
    · rw [MS 35 (by omega) (by omega) (by omega), S3 35 (by omega), g.1.2.1]; exact f1
    · rw [M2 2 (by omega) (by omega), g2.2 2 (by omega)]; exact k3
    · rw [MS 35 (by omega) (by omega) (by omega), S3 35 (by omega), g.2.1, f2, M2 9 (by omega) (by omega), g2.2 9 (by omega)]; exact k4.symm
    · rw [MN 0 (by omega), eN, wi_self]
    · rw [M2 11 (by omega) (by omega), g2.2 11 (by omega)]; exact k5
    · rw [M26 14 (by omega), l1 260 (by unfold in267; omega), wi_self]
    · rw [MN 0 (by omega), eN, wi_place (by omega)]; exact hB.2.2.1
    · rw [eM, wi_self]
    · rw [B249 249 (by omega)]; rfl
    · rw [B249 249 (by omega)]; rfl
    · rw [B249 249 (by omega)]; rfl
    · rw [B249 250 (by omega)]
      rcases (show t = 0 ∨ t = 1 ∨ t = 2 by omega) with rfl | rfl | rfl <;> rfl
    · rw [eM]; rfl
    · rw [eM]; rfl
    · rw [eM]; rfl
    · rw [eM]
      rcases (show t = 0 ∨ t = 1 ∨ t = 2 by omega) with rfl | rfl | rfl <;> rfl
