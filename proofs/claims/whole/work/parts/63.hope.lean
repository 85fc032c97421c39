/-! the reference's hopes -/
theorem r_weights {μ : xM} {R : Nat → Int} {Q : Int → xM → Prop} (e : μ 263 = R) (hR : okR R) (hq : Q (wsum R (R 5).toNat) μ) : tX11_weights μ Q := by
  subst e
  have bK := hR.K
  intro _
  refine rd2b (n := μ 263 5) (fun i b => b = wsum (μ 263) i.toNat) (by omega) rfl ?_
  rintro i b K i0 i1 rfl hK
  have ws := wsum_rng hR i.toNat (by omega)
  refine ⟨⟨by omega, by omega⟩, fun d => ⟨⟨by omega, by omega⟩, ?_⟩, fun d => ⟨⟨by omega, by omega⟩, hK _ (by omega) ?_⟩⟩
  · rw [show i.toNat = (μ 263 5).toNat by omega]; exact hq
  · rw [show (i + 1).toNat = i.toNat + 1 by omega, show (309 + i).toNat = 309 + i.toNat by omega]; rfl
theorem r_power {μ : xM} {R : Nat → Int} {k : Nat} {Q : Int → xM → Prop} (e : μ 263 = R) (hR : okR R) (hk : k ≤ 4) (hq : Q (wpow R k) μ) : tX11_power k μ Q := by
  intro _ _
  refine rd2b (n := (k : Int)) (fun j b => b = wpow R j.toNat) (by omega) rfl ?_
  rintro j b K2 j0 j1 rfl hK2
  have wp := wpow_4 hR (k := j.toNat) (by omega)
  refine ⟨⟨by omega, by omega⟩, fun d => ⟨⟨by omega, by omega⟩, ?_⟩, fun d => r_weights e hR (fun _ _ => hK2 _ (by omega) ?_)⟩
  · rw [show j.toNat = k by omega]; exact hq
  · rw [show (j + 1).toNat = j.toNat + 1 by omega]; rfl
theorem lc0 (x : Int) : (if 0 < x then (1 : Int) else if x = 0 then 0 else -1) < 0 ↔ x < 0 := by
  split
  · constructor
    · intro z; omega
    · intro z; omega
  · split
    · constructor
      · intro z; omega
      · intro z; omega
    · constructor
      · intro z; omega
      · intro z; omega
theorem lcz (x : Int) : (if 0 < x then (1 : Int) else if x = 0 then 0 else -1) = 0 ↔ x = 0 := by
  split
  · constructor
    · intro z; omega
    · intro z; omega
  · split
    · constructor
      · intro z; omega
      · intro z; omega
    · constructor
      · intro z; omega
      · intro z; omega
theorem lcm2 (a n : Int) : (if a < n then (1 : Int) else if n = a then 0 else -1) ≤ 0 ↔ n ≤ a := by
  split
  · constructor
    · intro z; omega
    · intro z; omega
  · split
    · constructor
      · intro z; omega
      · intro z; omega
    · constructor
      · intro z; omega
      · intro z; omega
def iHM (μ : xM) : Prop := ∀ a b c : Nat, a ≤ 24 → b ≤ 24 → c ≤ 24 → vtF (μ 263) b c → ∀ k : Nat, k < 4 → μ 279 (15625 * k + cdN a b c) = -1 ∨ μ 279 (15625 * k + cdN a b c) = hopeF (μ 263) (k + 1) a b c
def hmS (μ ν : xM) : Prop := (∀ k, k ≠ 279 → ν k = μ k) ∧ iHM ν
theorem hmS.tt {μ ν ω : xM} (h : hmS μ ν) (h2 : hmS ν ω) : hmS μ ω := ⟨fun k a => (h2.1 k a).trans (h.1 k a), h2.2⟩
theorem hmS.s {μ ν : xM} (h : hmS μ ν) : sc1 μ ν := fun k hk => h.1 k (by rintro rfl; exact hk (by unfold scrK; omega))
theorem spF_rng {R : Nat → Int} {x p M : Int} {f : Nat → Nat → Nat → Int} (hf : ∀ a b c, 0 ≤ f a b c ∧ f a b c ≤ M) (hp : 0 ≤ p) (a b c : Nat) : ∀ t, 0 ≤ spF R x p f a b c t ∧ spF R x p f a b c t ≤ M + p := by
  intro t
  induction t with
  | zero => have := hf a b c; simp only [spF]; omega
  | succ t ih =>
    simp only [spF]
    refine ⟨Int.le_trans ih.1 ((mxB_le _ _).1 (Int.le_refl _)).1, (mxB_le _ _).2 ⟨ih.2, fun v _ => ?_⟩⟩
    have := (hf (if t = 0 then v else a) (if t = 1 then v else b) (if t = 2 then v else c)).2
    omega
theorem r_hopeOf : ∀ (k fuel : Nat), k < fuel → k ≤ 4 → ∀ (a b c : Nat) (μ : xM) (Q : Int → xM → Prop), iOpW μ → iHM μ → a ≤ 24 → b ≤ 24 → c ≤ 24 → vtF (μ 263) b c → (∀ ν, hmS μ ν → Q (hopeF (μ 263) k a b c) ν) → tX11_hopeOf fuel (cdN a b c) k μ Q := by
  intro k
  induction k with
  | zero =>
    intro fuel hf _ a b c μ Q h hm ha hb hc hv hq
    obtain ⟨m, rfl⟩ : ∃ m, fuel = m + 1 := ⟨fuel - 1, by omega⟩
    intro _ _ _
    exact ⟨fun z => absurd rfl z, fun _ => hq μ ⟨fun _ _ => rfl, hm⟩⟩
  | succ k ihn =>
    intro fuel hf hk4 a b c μ Q h hm ha hb hc hv hq
    obtain ⟨m, rfl⟩ : ∃ m, fuel = m + 1 := ⟨fuel - 1, by omega⟩
    have hk : k ≤ 3 := by omega
    have bT := h.2.1.T
    have bW := h.2.1.W
    have bK := h.2.1.K
    have hR := h.2.1
    have wp := wpow_3 hR hk
    have fb := hope_3 hR hk
    have h4 := hope_4 hR hk4 a b c
    have cl : cdN a b c < 15625 := by unfold cdN; omega
    have pk1 : ((k + 1 : Nat) : Int) - 1 = k := by omega
    have es : (15625 * (k : Int) + (cdN a b c : Int)).toNat = 15625 * k + cdN a b c := by omega
    have spr := fun x => spF_rng (R := μ 263) (x := x) fb wp.1 a b c
    intro _ _ _
    rw [pk1, es]
    refine ⟨fun _ => ⟨⟨by omega, by omega⟩, fun kk => ?_, fun kk => ?_⟩, fun z => absurd z (by omega)⟩
    · refine up2b (n := μ 263 5) (fun i s ν => hmS μ ν ∧ s = hsum (μ 263) (wpow (μ 263) k) (hopeF (μ 263) k) a b c i.toNat) (by omega) ⟨⟨fun _ _ => rfl, hm⟩, rfl⟩ ?_
      rintro i s ν K i0 i1 ⟨f2, rfl⟩ _ hK
      obtain ⟨n, rfl⟩ : ∃ n : Nat, i = n := ⟨i.toNat, by omega⟩
      rw [Int.toNat_natCast]
      have o2 : iOpW ν := iOpW_a f2.s.a h
      have e2 : ν 263 = μ 263 := f2.1 263 (by omega)
      have hs3 := hsum_3 hR hk a b c n (by omega)
      rw [e2]
      refine ⟨⟨by omega, by omega⟩, fun d => ⟨⟨by omega, by omega⟩, ⟨by omega, by omega⟩, wl fun _ => ?_⟩, fun d => ⟨⟨by omega, by omega⟩, ?_⟩⟩
      · have en : n = (μ 263 5).toNat := by omega
        have eh : hsum (μ 263) (wpow (μ 263) k) (hopeF (μ 263) k) a b c n = hopeF (μ 263) (k + 1) a b c := by rw [en]; rfl
        rw [eh]
        refine hq _ ⟨fun j hj => ?_, fun x' y z h1 h2 h3 h4' k' hk' => ?_⟩
        · rw [← f2.1 j hj]; funext j2; exact wi_cell hj
        · have e263 : wi ν 279 (15625 * k + cdN a b c) (hopeF (μ 263) (k + 1) a b c) 263 = μ 263 := by funext j; rw [wi_cell (by omega), e2]
          rw [e263] at h4' ⊢
          by_cases q : 15625 * k' + cdN x' y z = 15625 * k + cdN a b c
          · have : k' = k ∧ x' = a ∧ y = b ∧ z = c := by unfold cdN at q; omega
            obtain ⟨rfl, rfl, rfl, rfl⟩ := this
            rw [wi_self]; right; rfl
          · rw [wi_place q]
            have := f2.2 x' y z h1 h2 h3 (by rw [e2]; exact h4') k' hk'
            rw [e2] at this; exact this
      · have bx := hR.lik (i := n) (by omega)
        obtain ⟨x, hx⟩ : ∃ x, x = μ 263 (303 + n) := ⟨_, rfl⟩
        refine ihn m (by omega) (by omega) a b c ν _ o2 f2.2 ha hb hc (by rw [e2]; exact hv) (fun ν1 f3 _ _ => ?_)
        rw [e2]
        refine up2b (n := μ 263 0) (fun t M ν => hmS μ ν ∧ M = spF (μ 263) x (wpow (μ 263) k) (hopeF (μ 263) k) a b c t.toNat) (by omega) ⟨f2.tt f3, rfl⟩ ?_
        rintro t M ν' K1 t0 t1 ⟨f4, rfl⟩ _ hK1
        obtain ⟨tn, rfl⟩ : ∃ tn : Nat, t = tn := ⟨t.toNat, by omega⟩
        rw [Int.toNat_natCast]
        have o4 : iOpW ν' := iOpW_a f4.s.a h
        have e4 : ν' 263 = μ 263 := f4.1 263 (by omega)
        have sr := spr x tn
        rw [e4]
        refine ⟨⟨by omega, by omega⟩, fun d1 => ⟨⟨by omega, by omega⟩, hK _ _ (by omega) ⟨f4, ?_⟩⟩, fun d1 => ?_⟩
        · rw [show ((n : Int) + 1).toNat = n + 1 by omega, show (309 + (n : Int)).toNat = 309 + n by omega, show tn = (μ 263 0).toNat by omega, ← seat_sp hR, hx]; rfl
        · refine up2b (n := μ 263 3) (fun v M ξ => hmS μ ξ ∧ M = mxB (fun v => wpow (μ 263) k + hopeF (μ 263) k (if tn = 0 then v else a) (if tn = 1 then v else b) (if tn = 2 then v else c)) (upR (μ 263) (tbN a b c tn) x v.toNat) (spF (μ 263) x (wpow (μ 263) k) (hopeF (μ 263) k) a b c tn)) (by omega) ⟨f4, rfl⟩ ?_
          rintro v M ξ K2 v0 v1 ⟨f5, rfl⟩ _ hK2
          obtain ⟨vn, rfl⟩ : ∃ vn : Nat, v = vn := ⟨v.toNat, by omega⟩
          rw [Int.toNat_natCast]
          have o5 : iOpW ξ := iOpW_a f5.s.a h
          have e5 : ξ 263 = μ 263 := f5.1 263 (by omega)
          have mrr : 0 ≤ mxB (fun v => wpow (μ 263) k + hopeF (μ 263) k (if tn = 0 then v else a) (if tn = 1 then v else b) (if tn = 2 then v else c)) (upR (μ 263) (tbN a b c tn) x vn) (spF (μ 263) x (wpow (μ 263) k) (hopeF (μ 263) k) a b c tn) ∧ mxB (fun v => wpow (μ 263) k + hopeF (μ 263) k (if tn = 0 then v else a) (if tn = 1 then v else b) (if tn = 2 then v else c)) (upR (μ 263) (tbN a b c tn) x vn) (spF (μ 263) x (wpow (μ 263) k) (hopeF (μ 263) k) a b c tn) ≤ 629856 := by
            refine ⟨Int.le_trans sr.1 ((mxB_le _ _).1 (Int.le_refl _)).1, (mxB_le _ _).2 ⟨by omega, fun v _ => ?_⟩⟩
            have := (fb (if tn = 0 then v else a) (if tn = 1 then v else b) (if tn = 2 then v else c)).2
            omega
          have nv : ((vn : Int) + 1).toNat = vn + 1 := by omega
          rw [e5]
          refine ⟨⟨by omega, by omega⟩, fun d2 => hK1 _ _ (by omega) ⟨f5, ?_⟩, fun d2 => ⟨⟨by omega, by omega⟩, ⟨by omega, by omega⟩, ?_⟩⟩
          · rw [show ((tn : Int) + 1).toNat = tn + 1 by omega, spF, show vn = (μ 263 3).toNat by omega, ← upR_out hR (by omega)]
            rfl
          · rw [show (303 + (n : Int)).toNat = 303 + n by omega, ← hx, ← cdN_cd]
            refine w_wordAfter o5 e5 ⟨by omega, by omega⟩ ⟨by omega, by omega⟩ ⟨by omega, by omega⟩ v0 (by omega) (fun y _ _ => ⟨fun _ => ⟨⟨by omega, by omega⟩, ?_⟩, fun z => absurd (wt_rng ⟨by omega, by omega⟩ ⟨by omega, by omega⟩ ⟨by omega, by omega⟩ ⟨v0, by omega⟩).1 z⟩) (fun y _ _ => ⟨fun z => absurd z (by decide), fun _ => hK2 _ _ (by omega) ⟨f5, ?_⟩⟩)
            · rw [pk_tb t0 (by omega), Int.toNat_natCast, Int.toNat_natCast, Int.toNat_natCast] at y
              rw [wt_tb t0 (by omega), Int.toNat_natCast]
              refine r_power e5 hR (by omega) (fun _ _ => ihn m (by omega) (by omega) _ _ _ ξ _ o5 f5.2 ?_ ?_ ?_ ?_ (fun ω f6 _ _ => ?_))
              · split <;> omega
              · split <;> omega
              · split <;> omega
              · rw [e5]
                refine ⟨fun q => ?_, fun q => ?_⟩
                · rw [if_neg (by omega)]; exact hv.1 q
                · rw [if_neg (by omega)]; exact hv.2 q
              · rw [e5]
                have q1 := fb (if tn = 0 then vn else a) (if tn = 1 then vn else b) (if tn = 2 then vn else c)
                rw [lcm2]
                refine ⟨⟨by omega, by omega⟩, ⟨by omega, by omega⟩, fun w => hK2 _ _ (by omega) ⟨f5.tt f6, ?_⟩, fun w => hK2 _ _ (by omega) ⟨f5.tt f6, ?_⟩⟩
                · rw [nv, upR_y y, mxB_snoc]; omega
                · rw [nv, upR_y y, mxB_snoc]; omega
            · rw [pk_tb t0 (by omega), Int.toNat_natCast, Int.toNat_natCast, Int.toNat_natCast] at y
              rw [nv, upR_n y]
    · rw [lc0] at kk
      have old := hm a b c ha hb hc hv k (by omega)
      have ev : μ 279 (15625 * k + cdN a b c) = hopeF (μ 263) (k + 1) a b c := by
        rcases old with q | q
        · omega
        · exact q
      rw [ev]
      exact hq μ ⟨fun _ _ => rfl, hm⟩
/-! the common divisor -/
theorem gcd_st (A B : Nat) : Nat.gcd B (A % B) = Nat.gcd A B := by rw [Nat.gcd_comm B, ← Nat.gcd_rec, Nat.gcd_comm]
theorem s_common {μ : xM} {x y : Nat} {Q : Int → xM → Prop} (hx : x ≤ 34012224) (hy : y ≤ 34012224) (h0 : 0 < y) (hq : Q (Nat.gcd x y : Nat) μ) : tX10_commonDivisor x y μ Q := by
  intro _ _ _
  refine rd3c (n := 64) (fun i l s => ∃ A B : Nat, l = A ∧ s = B ∧ 0 < A ∧ B ≤ A ∧ A ≤ 34012224 ∧ Nat.gcd A B = Nat.gcd x y ∧ A * B * 2 ^ i.toNat < 2 ^ 52) (by omega) ?_ ?_
  · rcases Nat.le_total x y with z | z
    · refine ⟨y, x, by omega, by omega, h0, z, hy, Nat.gcd_comm _ _, ?_⟩
      have := Nat.mul_le_mul hy hx
      show y * x * 1 < _
      omega
    · refine ⟨x, y, by omega, by omega, by omega, z, hx, rfl, ?_⟩
      have := Nat.mul_le_mul hx hy
      show x * y * 1 < _
      omega
  · rintro i l s K i0 i1 ⟨A, B, rfl, rfl, a0, ab, ax, hg, hm⟩ hK
    have fin : B = 0 → xIn (A : Int) ∧ Q A μ := by
      rintro rfl
      rw [Nat.gcd_zero_right] at hg
      rw [hg]
      exact ⟨⟨by omega, by omega⟩, hq⟩
    refine ⟨⟨by omega, by omega⟩, fun d => fin ?_, fun d => ⟨⟨by omega, by omega⟩, fun e => fin (by omega), fun e => ⟨⟨by omega, by omega⟩, by omega, hK _ _ (by omega) ?_⟩⟩⟩
    · rw [show i.toNat = 64 by omega] at hm
      rcases Nat.eq_zero_or_pos B with z | z
      · exact z
      · have := Nat.mul_pos a0 z
        have := Nat.mul_le_mul_right (2 ^ 64) this
        omega
    · have r1 : A % B < B := Nat.mod_lt _ (by omega)
      have r2 : A % B ≤ A - B := by rw [Nat.mod_eq_sub_mod ab]; exact Nat.mod_le _ _
      refine ⟨B, A % B, rfl, rfl, by omega, by omega, by omega, (gcd_st A B).trans hg, ?_⟩
      rw [show (i + 1).toNat = i.toNat + 1 by omega]
      refine Nat.lt_of_le_of_lt ?_ hm
      have e1 : B * (A % B) * 2 ^ (i.toNat + 1) = (2 * (A % B)) * (B * 2 ^ i.toNat) := by
        rw [Nat.pow_succ]
        simp only [Nat.mul_comm, Nat.mul_left_comm, Nat.mul_assoc]
      rw [e1, Nat.mul_assoc A B]
      exact Nat.mul_le_mul_right _ (by omega)
theorem r_common {μ : xM} {x y : Nat} {Q : Int → xM → Prop} (hx : x ≤ 34012224) (hy : y ≤ 34012224) (hq : Q (Nat.gcd x y : Nat) μ) : tX11_common x y μ Q := by
  intro _ _ _
  refine ⟨fun n l s ν => ν = μ ∧ ∃ A B : Nat, l = A ∧ s = B ∧ B = n ∧ A ≤ 34012224 ∧ B ≤ 34012224 ∧ Nat.gcd A B = Nat.gcd x y, ⟨y, rfl, x, y, rfl, rfl, rfl, hx, hy, rfl⟩, ?_⟩
  rintro n l s ν ⟨rfl, A, B, rfl, rfl, rfl, ax, bx, hg⟩ _
  rw [lcz]
  refine ⟨⟨by omega, by omega⟩, fun d => ⟨⟨by omega, by omega⟩, ?_⟩, fun d => ⟨⟨by omega, by omega⟩, by omega, A % B, Nat.mod_lt _ (by omega), rfl, B, A % B, rfl, rfl, rfl, bx, ?_, (gcd_st A B).trans hg⟩⟩
  · have : B = 0 := by omega
    subst this
    rw [Nat.gcd_zero_right] at hg
    rw [hg]; exact hq
  · have := Nat.mod_lt A (show B > 0 by omega)
    omega
