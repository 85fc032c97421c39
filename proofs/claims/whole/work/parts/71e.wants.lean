theorem lp_finA {ν M ω : xM} {a : Int} (hi : Inv ν) (ha : a ≠ 4) (eM : M = wi (wi (wi ν 0 18 a) 260 0 0) 260 11 0) (l : lpS M ω) : Inv (wi ω 260 11 a) := by
  refine Inv_rp (a := a) hi (fun k x y z => ?_) (fun j hj => ?_) ?_ (fun j x y z => ?_) (wi_self _ _ _ _) ha
  · have : wi ω 260 11 a k = ω k := by funext j; exact wi_cell y
    rw [this, l.1 k y z, eM]; funext j; rw [wi_cell y, wi_cell y, wi_cell x]
  · rw [wi_cell (by omega), l.1 0 (by omega) (by omega), eM, wi_cell (by omega), wi_cell (by omega), wi_place hj]
  · rw [wi_cell (by omega), l.1 0 (by omega) (by omega), eM, wi_cell (by omega), wi_cell (by omega), wi_self]
  · rw [wi_place y, l.2 j z, eM, wi_place y, wi_place x, wi_cell (by omega)]
def isLk (D : Nat → Int) (p : Int) (c : Nat) : Prop := c < 26 ∧ sumN D c ≤ p ∧ p < sumN D (c + 1)
theorem sumN_mn {D : Nat → Int} (h : ∀ c, c < 26 → 0 ≤ D c) : ∀ n m : Nat, n ≤ m → m ≤ 26 → sumN D n ≤ sumN D m := by
  intro n m hm h26
  induction m with
  | zero => rw [show n = 0 by omega]; exact Int.le_refl _
  | succ m ih =>
    by_cases q : n = m + 1
    · rw [q]; exact Int.le_refl _
    · have := ih (by omega) (by omega)
      have := h m (by omega)
      simp only [sumN]; omega
theorem isLk_u {D : Nat → Int} (h : ∀ c, c < 26 → 0 ≤ D c) {p : Int} {c d : Nat} (hc : isLk D p c) (hd : isLk D p d) : c = d := by
  obtain ⟨a1, a2, a3⟩ := hc
  obtain ⟨b1, b2, b3⟩ := hd
  rcases Nat.lt_trichotomy c d with q | q | q
  · have := sumN_mn h (c + 1) d (by omega) (by omega); omega
  · exact q
  · have := sumN_mn h (d + 1) c (by omega) (by omega); omega
theorem s_lackingAt {ν : xM} {D : Nat → Int} {p : Int} {Q : Int → xM → Prop} (hD : ∀ c, c < 26 → 0 ≤ D c ∧ D c ≤ 100) (hν : ∀ c : Nat, c < 26 → ν 222 c = - D c) (p0 : 0 ≤ p) (p1 : p < sumN D 26) (hq : ∀ c : Nat, isLk D p c → Q c ν) : tX9_lackingAt 221 p ν Q := by
  intro _ _
  refine rd2b (n := 26) (fun c s => s = sumN D c.toNat ∧ s ≤ p ∧ 0 ≤ s ∧ s ≤ 100 * c) (by omega) ⟨rfl, p0, by omega, by omega⟩ ?_
  rintro c s K c0 c1 ⟨rfl, s1, s2, s3⟩ hK
  obtain ⟨n, rfl⟩ : ∃ n : Nat, c = n := ⟨c.toNat, by omega⟩
  rw [Int.toNat_natCast] at s1 s2 s3 ⊢
  refine ⟨⟨by omega, by omega⟩, fun d => absurd s1 (by rw [show n = 26 by omega]; omega), fun d => ?_⟩
  have dn := hD n (by omega)
  have en : ν (221 + 1) n = - D n := hν n (by omega)
  rw [en, show max 0 (- (- D n)) = D n by omega]
  refine ⟨⟨c0, by omega⟩, ⟨by omega, by omega⟩, ⟨by omega, by omega⟩, fun z => hK _ (by omega) ?_, fun z => hq n ⟨by omega, s1, ?_⟩⟩
  · rw [show ((n : Int) + 1).toNat = n + 1 by omega]
    exact ⟨rfl, z, by omega, by omega⟩
  · simp only [sumN]; omega
/-- wants -/
theorem c_17 {sc : Int → Int} {i : Int} {μ : xM} (hi : Inv μ) : tl_17 sc i μ Inv := by
  obtain ⟨p, ep⟩ : ∃ w, w = sc (i + 1) := ⟨_, rfl⟩
  unfold tl_17
  rw [← ep]
  have hK : ∀ a, a ≠ 4 → Inv (tr μ a) := fun a => Inv_tr hi
  rcases hi.os with h | h
  · have h14 := h.1
    have hR := h.2.1
    have bN := hR.N
    by_cases hp : 0 ≤ p
    · intro _ xp
      refine k_open h (fun _ _ => ⟨fun z => absurd z (by decide), fun _ => ⟨fun _ => lack_m hi h (fun ν iv ov v3 v0 b _ => ⟨rfl, ?_⟩), fun z => absurd hp z⟩⟩)
      rw [b.2.1]
      have lj := lackJ_ok hR (sum_have hR) (l := offL (gb (μ 263)) 0) (fun w hw => gbL_w hw)
      obtain ⟨lw, l3⟩ := lackF_row (H := haveF (μ 263)) (N := μ 263 4) hR (l := offL (gb (μ 263)) 0) (fun w hw => gbL_w hw)
      change (LK (μ 263)).2.1 = -1 ∨ (0 ≤ (LK (μ 263)).2.1 ∧ fillF (μ 263) (haveF (μ 263)) (LK (μ 263)).2.2 ∧ (LK (μ 263)).2.1 = lenL (μ 263) (LK (μ 263)).2.2 - μ 263 4) at lj
      change rowW (μ 263) (LK (μ 263)).2.2 at lw
      change (LK (μ 263)).2.2.length ≤ 3 at l3
      obtain ⟨row, er⟩ : ∃ row, row = (LK (μ 263)).2.2 := ⟨_, rfl⟩
      obtain ⟨lack, el⟩ : ∃ x, x = (LK (μ 263)).2.1 := ⟨_, rfl⟩
      rw [← er, ← el] at lj
      rw [← er] at lw l3
      rw [← el]
      obtain ⟨D, hDD⟩ : ∃ D : Nat → Int, D = fun c : Nat => needL (μ 263) row (c : Int) - haveF (μ 263) (c : Int) := ⟨_, rfl⟩
      have refN : ¬ 0 ≤ lack → tX11_wants p (wi ν 0 18 6) (fun r' ω => xIn r' → xRan ω → -1 = r' ∧ Inv ω) := by
        intro z _ _
        refine s_good (fun _ => ⟨fun z => absurd (show ν 260 14 = 0 from z) (by rw [v0, h14]; decide), fun _ => ⟨fun _ => r_laysL (R := μ 263) (show ν 260 14 = 1 by rw [v0]; exact h14) (show ν 263 = _ from v3) hR (fun ω l en _ _ _ => ⟨fun y => absurd ?_ y, fun _ => s_no (fun _ _ _ _ => ⟨rfl, lp_finA iv (by decide) rfl l⟩)⟩), fun y => absurd hp y⟩⟩)
        rcases en with y | y
        · exact y.2.2
        · rw [← el] at y; exact absurd y.1 z
      have refY : 0 ≤ lack → ∀ a r : Int, (a = 0 ∧ ∃ c, isLk D p c ∧ r = c) ∨ (a = 1 ∧ lack ≤ p ∧ r = -1) → tX11_wants p (wi ν 0 18 a) (fun r' ω => xIn r' → xRan ω → r = r' ∧ Inv ω) := by
        intro z a r har _ _
        obtain ⟨l1, l2, l4⟩ := lj.resolve_left (by omega)
        have fl := fillF_nat.1 l2
        have D0 : ∀ c, c < 26 → 0 ≤ D c := fun c hc => by rw [hDD]; have := fl c hc; simp only; omega
        have Db : ∀ c, c < 26 → D c ≤ 100 := fun c hc => by
          rw [hDD]
          have := needL_rng hR c row lw
          have := cntG_rng (μ 263) c (μ 263 4).toNat
          unfold haveF; simp only; omega
        have Dsum : sumN D 26 = lack := by
          have : sumN (fun c => needL (μ 263) row c) 26 = sumN D 26 + sumN (fun c => haveF (μ 263) c) 26 := by
            rw [← sumN_add]
            exact sumN_c _ (fun c _ => by rw [hDD]; simp only; omega)
          rw [sum_need hR row lw, sum_have hR] at this
          omega
        refine s_good (fun _ => ⟨fun z => absurd (show ν 260 14 = 0 from z) (by rw [v0, h14]; decide), fun _ => ⟨fun _ => r_laysL (R := μ 263) (show ν 260 14 = 1 by rw [v0]; exact h14) (show ν 263 = _ from v3) hR (fun ω l en hv _ _ => ?_), fun y => absurd hp y⟩⟩)
        have en2 : ω 260 33 = lack ∧ ∀ t, t < 3 → ω 274 t = (row.getD t 24 : Nat) := by
          rcases en with y | y
          · rw [← el] at y; omega
          · rw [← el, ← er] at y; exact ⟨y.2.2.1, y.2.2.2⟩
        rw [en2.1]
        refine ⟨fun _ => ?_, fun y => absurd y (by omega)⟩
        refine up1 (n := 3) (fun t ξ => (∀ k, k ≠ 275 → ξ k = ω k) ∧ ∀ j : Nat, (j : Int) < t → ξ 275 j = (row.getD j 24 : Nat)) (by omega) ⟨fun _ _ => rfl, fun j hj => by omega⟩ ?_
        rintro t ξ K t0 t1 ⟨x1, x2⟩ _ hKK
        refine ⟨⟨by omega, by omega⟩, fun d => ?_, fun d => ⟨⟨t0, by omega⟩, wl fun _ => hKK _ (by omega) ⟨fun k hk => ?_, fun j hj => ?_⟩⟩⟩
        rotate_left
        · rw [← x1 k hk]; funext j; exact wi_cell hk
        · by_cases q : j = t.toNat
          · subst q; rw [wi_self, x1 274 (by omega)]; exact en2.2 _ (by omega)
          · rw [wi_place q]; exact x2 j (by omega)
        have w263 : ω 263 = μ 263 := (l.1 263 (by omega) (by omega)).trans v3
        have tr1 : tri (μ 263) (fun t => row.getD t 24) ξ := fun j hj => ⟨x2 j (by omega), getD_dom lw j⟩
        have nd3 : ∀ c : Int, sumN (fun t => cntW (μ 263) (row.getD t 24) c) 3 = needL (μ 263) row c := fun c => by
          rw [need3 l3]; simp only [sumN]; omega
        have fin : ∀ ξ2 : xM, (∀ k, k ≠ 272 → ξ2 k = ξ k) → (∀ c : Nat, c < 26 → ξ2 272 c = sumN (fun t => cntW (μ 263) (row.getD t 24) c) 3) → (xLoop2 p 0 ξ2 (fun J77 l2_25 l3_26 μ27 =>
  (xIn l3_26) ∧ (((26 ≤ l3_26 → tX11_no 1 μ27 (fun r33 μ31 => (xIn r33) → xRan μ31 → (xIn r33 → xRan μ31 → r = r33 ∧ Inv μ31))) ∧
  (¬ 26 ≤ l3_26 → (0 ≤ l3_26 ∧ l3_26 < 26) ∧ ((xIn l2_25) ∧ ((xIn ((μ27 272 l3_26.toNat) - (μ27 273 l3_26.toNat))) ∧ (((((μ27 272 l3_26.toNat) - (μ27 273 l3_26.toNat)) ≤ l2_25 → J77 (l2_25 - ((μ27 272 l3_26.toNat) - (μ27 273 l3_26.toNat))) (l3_26 + 1) μ27) ∧
  (¬ ((μ27 272 l3_26.toNat) - (μ27 273 l3_26.toNat)) ≤ l2_25 → (xIn l3_26 → xRan μ27 → r = l3_26 ∧ Inv μ27))))))))))) := by
          intro ξ2 y1 y2
          have ls : lpS (wi (wi (wi ν 0 18 a) 260 0 0) 260 11 0) ξ2 := ⟨fun k p q => by rw [y1 k (by omega), x1 k (by omega)]; exact l.1 k p q, fun j q => by rw [y1 260 (by omega), x1 260 (by omega)]; exact l.2 j q⟩
          refine rd2b (n := 26) (fun c s => s = p - sumN D c.toNat ∧ 0 ≤ s) (by omega) ⟨by simp [sumN], hp⟩ ?_
          rintro c s K2 c0 c1 ⟨rfl, s1⟩ hK2
          obtain ⟨n, rfl⟩ : ∃ n : Nat, c = n := ⟨c.toNat, by omega⟩
          rw [Int.toNat_natCast] at s1 ⊢
          refine ⟨⟨by omega, by omega⟩, fun d => s_no (fun _ _ _ _ => ?_), fun d => ?_⟩
          · rw [show n = 26 by omega, Dsum] at s1
            rcases har with ⟨_, c, hc, _⟩ | ⟨rfl, _, rfl⟩
            · have := sumN_mn D0 (c + 1) 26 (by have := hc.1; omega) (by omega)
              have := hc.2.2
              omega
            · exact ⟨rfl, lp_finA iv (by decide) rfl ls⟩
          · have dn : ξ2 272 n - ξ2 273 n = D n := by
              rw [y2 n (by omega), nd3, y1 273 (by omega), x1 273 (by omega), hv n (by omega), hDD]
            have d0 := D0 n (by omega)
            have db := Db n (by omega)
            have sn := sumN_mn D0 0 n (by omega) (by omega)
            simp only [sumN] at sn
            unfold xIn at xp
            rw [dn]
            refine ⟨⟨c0, by omega⟩, ⟨by omega, by omega⟩, ⟨by omega, by omega⟩, fun y => hK2 _ (by omega) ?_, fun y _ _ => ?_⟩
            · rw [show ((n : Int) + 1).toNat = n + 1 by omega]
              simp only [sumN]; omega
            · have lk : isLk D p n := ⟨by omega, by omega, by simp only [sumN]; omega⟩
              rcases har with ⟨rfl, c, hc, hr⟩ | ⟨_, hl, _⟩
              · refine ⟨by rw [hr, isLk_u D0 hc lk], lp_fin (μ := μ) iv rfl ls⟩
              · have := sumN_mn D0 (n + 1) 26 (by omega) (by omega)
                have := lk.2.2
                omega
        exact r_addUp (H := haveF (μ 263)) ((x1 263 (by omega)).trans w263) hR tr1 (fun c hc => by rw [x1 273 (by omega)]; exact hv c hc) (fun ξ2 y1 y2 _ _ _ => fin ξ2 y1 y2) (fun ξ2 y1 y2 _ _ _ => fin ξ2 y1 y2)
      refine ⟨fun z => ⟨fun z2 => ?_, fun z2 => s_refused (fun _ _ _ _ => refY z 1 (-1) (Or.inr ⟨rfl, by omega, rfl⟩))⟩, fun z => s_refused (fun _ _ _ _ => refN z)⟩
      obtain ⟨l1, l2, l4⟩ := lj.resolve_left (by omega)
      have fl := fillF_nat.1 l2
      have Dsum : sumN D 26 = lack := by
        have : sumN (fun c => needL (μ 263) row c) 26 = sumN D 26 + sumN (fun c => haveF (μ 263) c) 26 := by
          rw [← sumN_add]
          exact sumN_c _ (fun c _ => by rw [hDD]; simp only; omega)
        rw [sum_need hR row lw, sum_have hR] at this
        omega
      refine s_lackingAt (D := D) (fun c hc => ?_) (fun c hc => ?_) hp (by omega) (fun c hc _ _ => s_granted (fun _ _ _ _ => refY z 0 c (Or.inl ⟨rfl, c, hc, rfl⟩)))
      · have a1 := fl c hc
        have a2 := needL_rng hR c row lw
        have a3 := cntG_rng (μ 263) c (μ 263 4).toNat
        rw [hDD]; unfold haveF at *; simp only; omega
      · rw [b.2.2 c hc, ← er, hDD]; simp only; omega
    · have ref : tX11_wants p (wi μ 0 18 1) (fun r' ω => xIn r' → xRan ω → -1 = r' ∧ Inv ω) := by
        intro _ _
        exact s_good (fun _ => ⟨fun z => absurd (h14.symm.trans z) (by decide), fun _ => ⟨fun z => absurd z hp, fun _ => s_no (fun _ _ _ _ => ⟨rfl, K_no (hK 1 (by decide))⟩)⟩⟩)
      intro _ _
      exact k_open h (fun _ _ => ⟨fun z => absurd z (by decide), fun _ => ⟨fun z => absurd z hp, fun _ => s_refused (fun _ _ _ _ => ref)⟩⟩)
  · have h14 := h.1
    have ref : tX11_wants p (wi μ 0 18 1) (fun r' ω => xIn r' → xRan ω → -1 = r' ∧ Inv ω) := by
      intro _ _
      exact s_good (fun _ => ⟨fun _ => s_no (fun _ _ _ _ => ⟨rfl, K_no (hK 1 (by decide))⟩), fun z => absurd h14 z⟩)
    intro _ _
    exact k_shut h (fun _ _ => ⟨fun _ => s_refused (fun _ _ _ _ => ref), fun z => absurd z (by decide)⟩)
/-! gains -/
theorem plan_le {R : Nat → Int} (hR : okR R) {H : Int → Int} {N : Int} {l : List Nat} (hl : ∀ w ∈ l, (w : Int) < R 3) : (planF R H N l).1 ≤ 18 := by
  have bT := hR.T
  have : ∀ (L : List (List Nat)) (s : pS), (∀ r ∈ L, rowW R r ∧ r.length ≤ 3) → s.1 ≤ 18 → (L.foldl (judgeF R H N) s).1 ≤ 18 := by
    intro L
    induction L with
    | nil => intro s _ h; exact h
    | cons r L ih =>
      intro s hr h
      rw [List.foldl_cons]
      refine ih _ (fun x hx => hr x (by simp [hx])) ?_
      have lr := hr r (by simp)
      have := lenL_rng hR r lr.1
      unfold judgeF
      split
      · unfold judge1
        split
        · simp only; omega
        · exact h
      · exact h
  refine this _ _ (fun r hr => ?_) (by decide)
  obtain ⟨ext, x1, x2, x3⟩ := spreadF_mem _ _ _ _ hr
  rw [x1, List.nil_append]
  exact ⟨fun w hw => hl w (x2 w hw), by omega⟩
theorem sum_have1 {R : Nat → Int} (hR : okR R) {x : Nat} (hx : x < 26) : sumN (fun c => have1 R x c) 26 = R 4 + 1 := by
  have := sumN_upd (f := fun c => haveF R c) (g := fun c => have1 R x c) (x := x) (d := 1) (by simp [have1]) (fun c hc => by unfold have1; rw [if_neg (by omega)]; omega) 26
  rw [this, sum_have hR, if_pos hx]
theorem c_18 {sc : Int → Int} {i : Int} {μ : xM} (hi : Inv μ) : tl_18 sc i μ Inv := by
  obtain ⟨p, ep⟩ : ∃ w, w = sc (i + 1) := ⟨_, rfl⟩
  unfold tl_18
  rw [← ep]
  have hK : ∀ a, a ≠ 4 → Inv (tr μ a) := fun a => Inv_tr hi
  rcases hi.os with h | h
  · have h14 := h.1
    have hR := h.2.1
    have bN := hR.N
    have hC := hi.cache h
    by_cases hp : 0 ≤ p ∧ p < 26
    · obtain ⟨x, rfl⟩ : ∃ x : Nat, p = x := ⟨p.toNat, by omega⟩
      obtain ⟨G, eG⟩ : ∃ G, G = (planF (μ 263) (have1 (μ 263) x) (μ 263 4 + 1) (offL (gb (μ 263)) 0)).1 - (PL (μ 263)).1 := ⟨_, rfl⟩
      have g1 := plan_le (H := have1 (μ 263) x) (N := μ 263 4 + 1) hR (l := offL (gb (μ 263)) 0) (fun w hw => gbL_w hw)
      have g2 : (PL (μ 263)).1 ≤ 18 := plan_le hR (fun w hw => gbL_w hw)
      have g3 : 0 ≤ (planF (μ 263) (have1 (μ 263) x) (μ 263 4 + 1) (offL (gb (μ 263)) 0)).1 := PL_ge hR (fun c _ => by
        have := cntG_rng (μ 263) c (μ 263 4).toNat
        unfold have1 haveF; split <;> omega)
      have g4 : 0 ≤ (PL (μ 263)).1 := PL_ge hR (fun c _ => (cntG_rng _ _ _).1)
      have ref : ∀ ν : xM, Inv ν → ν 263 = μ 263 → ν 260 = μ 260 → tX11_gains x (wi ν 0 18 0) (fun r' ω => xIn r' → xRan ω → G = r' ∧ Inv ω) := by
        intro ν iv v3 v0 _ _
        refine s_good (fun _ => ⟨fun _ => s_within (fun _ _ _ _ => ⟨fun _ => r_laysP (R := μ 263) (show ν 260 14 = 1 by rw [v0]; exact h14) (show ν 263 = _ from v3) hR (fun ω l en hv _ _ => ⟨⟨by omega, by omega⟩, ?_⟩), fun z => absurd z (by decide)⟩) (fun z => absurd ⟨hp.1, by omega⟩ z), fun z => absurd (show ν 260 14 = 0 from z) (by rw [v0, h14]; decide)⟩)
        rw [Int.toNat_natCast]
        have hx := hv x (by omega)
        have hb := cntG_rng (μ 263) x (μ 263 4).toNat
        have hxb : 0 ≤ ω 273 x ∧ ω 273 x ≤ 8 := by rw [hx]; unfold haveF; omega
        refine ⟨⟨by omega, by omega⟩, wl fun _ => r_plansP (R := μ 263) (H := have1 (μ 263) x) (N := μ 263 4 + 1) ?_ hR (fun c hc => ?_) (fun c hc => ?_) (sum_have1 hR (by omega)) (fun ω2 en2 rp _ => ?_)⟩
        · have : wi ω 273 x (ω 273 x + 1) 263 = ω 263 := by funext j; exact wi_cell (by omega)
          rw [this, l.1 263 (by omega) (by omega)]; exact v3
        · unfold have1
          by_cases q : c = x
          · subst q; rw [wi_self, hx, if_pos rfl]
          · rw [wi_place q, hv c hc, if_neg (by omega)]; omega
        · have := cntG_rng (μ 263) c (μ 263 4).toNat
          unfold have1 haveF; split <;> omega
        · rw [en2.1, en.1, ← eG]
          refine ⟨⟨by omega, by omega⟩, fun _ _ => ⟨rfl, lp_fin (μ := μ) iv rfl ⟨fun k q1 q2 => ?_, fun j q => ?_⟩⟩⟩
          · rw [rp.1 k q1 (by omega) (by omega) (by omega), ← l.1 k q1 q2]; funext j; exact wi_cell (by omega)
          · rw [rp.2 j q, ← l.2 j q]; exact wi_cell (by omega)
      intro _ _
      refine k_open h (fun _ _ => ⟨fun _ => ⟨fun z => by omega, fun _ => ⟨fun _ => ⟨⟨by omega, by omega⟩, ?_⟩, fun z => absurd hp.2 z⟩⟩, fun z => absurd z (by decide)⟩)
      rw [Int.toNat_natCast]
      refine ⟨fun z => ?_, fun z => s_survey (by omega) h.w (by omega) (fun ν v0 v1 v2 v3 v4 v5 v6 => ?_)⟩
      · have := hC.2.2.2.1 x (by omega) z
        have e2 : μ 231 x = G := this.trans eG.symm
        rw [e2]
        exact s_granted (fun _ _ _ _ => ref μ hi rfl rfl)
      · rw [if_neg (by omega), offP_6 hR h.2.2.2.2.2.2.2.2.2.2.2.2] at v1
        have n3 : ν 263 = μ 263 := v0 263 (by omega)
        have n0 : ν 260 = μ 260 := v0 260 (by omega)
        have sc2 : sc1 μ ν := fun k hk => v0 k (by unfold scrK at hk; omega)
        have iv : Inv ν := by
          have ic : iCache ν := iCache_d (v0 211 (by omega)) (v0 215 (by omega)) (v0 216 (by omega)) (v0 221 (by omega)) (v0 222 (by omega)) (v0 231 (by omega)) (v0 233 (by omega)) (v0 234 (by omega)) (v0 263 (by omega)) (v0 270 (by omega)) hC
          exact Inv_keep hi h (fun k hk => v0 k (by omega)) ⟨ic.1, ic.2.1, ic.2.2.1, ic.2.2.2.1⟩
        have ov : iOpen ν := iOpen_a sc2.a h
        refine plan_m iv ov (fun ω iw ow w3 w0 b _ => ⟨rfl, ?_⟩)
        have ed : ν 226 1 - ω 211 1 = G := by rw [v1, b.2.1, n3, eG]; rfl
        rw [ed]
        refine ⟨⟨by omega, by omega⟩, wl fun _ => ?_⟩
        rw [wi_self]
        refine s_granted (fun _ _ _ _ => ref _ ?_ ?_ ?_)
        · have f : ∀ k, k ≠ 231 → wi ω 231 x G k = ω k := fun k hk => by funext j; exact wi_cell hk
          obtain ⟨c1, c2, c3, c4, _⟩ := iw.cache ow
          refine Inv_keep iw ow (fun k hk => f k (by omega)) ⟨?_, ?_, ?_, ?_⟩
          · unfold iBest at *
            rw [f 211 (by omega), f 215 (by omega), f 263 (by omega)]; exact c1
          · unfold iRisen at *
            rw [f 216 (by omega), f 263 (by omega), f 270 (by omega)]; exact c2
          · unfold iLack at *
            rw [f 221 (by omega), f 222 (by omega), f 263 (by omega)]; exact c3
          · unfold iGain at *
            rw [f 263 (by omega)]
            intro c hc
            by_cases q : c = x
            · subst q
              rw [wi_self, w3, n3]
              exact fun _ => eG
            · rw [wi_place q]; exact c4 c hc
        · have : wi ω 231 x G 263 = ω 263 := by funext j; exact wi_cell (by omega)
          rw [this, w3, n3]
        · have : wi ω 231 x G 260 = ω 260 := by funext j; exact wi_cell (by omega)
          rw [this, w0, n0]
    · have ref : tX11_gains p (wi μ 0 18 2) (fun r' ω => xIn r' → xRan ω → -1 = r' ∧ Inv ω) := by
        intro _ _
        exact s_good (fun _ => ⟨fun _ => s_within (fun y1 y2 => absurd ⟨y1, by omega⟩ hp) (fun _ _ _ => ⟨fun z => absurd z (by decide), fun _ => s_no (fun _ _ _ _ => ⟨rfl, K_no (hK 2 (by decide))⟩)⟩), fun z => absurd (h14.symm.trans z) (by decide)⟩)
      intro _ _
      exact k_open h (fun _ _ => ⟨fun _ => ⟨fun _ => s_refused (fun _ _ _ _ => ref), fun y => ⟨fun y2 => absurd ⟨by omega, y2⟩ hp, fun _ => s_refused (fun _ _ _ _ => ref)⟩⟩, fun z => absurd z (by decide)⟩)
  · have h14 := h.1
    have ref : tX11_gains p (wi μ 0 18 1) (fun r' ω => xIn r' → xRan ω → -1 = r' ∧ Inv ω) := by
      intro _ _
      exact s_good (fun _ => ⟨fun z => absurd h14 z, fun _ => s_no (fun _ _ _ _ => ⟨rfl, K_no (hK 1 (by decide))⟩)⟩)
    intro _ _
    exact k_shut h (fun _ _ => ⟨fun z => absurd z (by decide), fun _ => s_refused (fun _ _ _ _ => ref)⟩)
