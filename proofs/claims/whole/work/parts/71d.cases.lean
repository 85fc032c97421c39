/-! most, worth, plan, richest, fewest -/
theorem plan_m {μ : xM} (hi : Inv μ) (h : iOpen μ) {P : Nat → xM → Prop} (hP : ∀ ν : xM, Inv ν → iOpen ν → ν 263 = μ 263 → ν 260 = μ 260 → bsS μ ν → P 211 ν) : tX10_bestPlan μ P :=
  s_best h.w (hi.cache h).1 (fun ν b => hP ν (Inv_best hi h b) (iOpen_a (by
    intro k j hn
    by_cases q : k < 211 ∨ 216 ≤ k
    · rw [b.1 k q]
    · have : ascr k j = true := by
        have h1 : 209 ≤ k ∧ k ≤ 248 := by omega
        simp [ascr, cscr, h1]
      rw [this] at hn; exact absurd hn (by decide)) h) (b.1 263 (by omega)) (b.1 260 (by omega)) b)
theorem c_11 {sc : Int → Int} {i : Int} {μ : xM} (hi : Inv μ) : tl_11 sc i μ Inv := by
  have hK : ∀ a, a ≠ 4 → Inv (tr μ a) := fun a => Inv_tr hi
  rcases hi.os with h | h
  · have h14 := h.1
    intro _
    refine k_open h (fun _ _ => ⟨fun z => absurd z (by decide), fun _ => plan_m hi h (fun ν iv ov v3 v0 b _ => ⟨rfl, s_granted (fun _ _ _ _ => ?_)⟩)⟩)
    intro _
    refine s_good (fun _ => r_laysP (R := μ 263) (show ν 260 14 = 1 by rw [v0]; exact h14) (show ν 263 = _ from v3) h.2.1 (fun ω l en _ _ _ => ⟨fun z => absurd z (by decide), fun _ _ _ => ⟨?_, lp_fin (μ := μ) iv rfl l⟩⟩))
    rw [en.1, b.2.1]
  · have h14 := h.1
    unfold tl_11
    repeat' (first
      | with_reducible refine k_shut h ?_
      | with_reducible refine s_refused ?_
      | with_reducible refine s_good ?_
      | with_reducible refine s_no ?_
      | with_reducible refine (fun _ _ => ⟨fun z => absurd h14 z, fun _ _ _ => ?_⟩ : tX11_laysPlans _ _ _)
      | (intro zq; exact absurd zq (by decide))
      | (intro zq; exact absurd h14 zq)
      | intro _
      | with_reducible refine And.intro ?_ ?_)
    all_goals first | rfl | contradiction | (exact K_no (hK _ (by decide))) | (exact hK _ (by decide)) | omega | (unfold goodI wordF at *; omega) | skip
theorem c_12 {sc : Int → Int} {i : Int} {μ : xM} (hi : Inv μ) : tl_12 sc i μ Inv := by
  have hK : ∀ a, a ≠ 4 → Inv (tr μ a) := fun a => Inv_tr hi
  rcases hi.os with h | h
  · have h14 := h.1
    have p0 : 0 ≤ (PL (μ 263)).1 := PL_ge h.2.1 (fun c _ => (cntG_rng _ _ _).1)
    intro _
    refine k_open h (fun _ _ => ⟨fun z => absurd z (by decide), fun _ => plan_m hi h (fun ν iv ov v3 v0 b _ => ⟨rfl, s_granted (fun _ _ _ _ => ?_)⟩)⟩)
    intro _
    refine s_good (fun _ => r_laysP (R := μ 263) (show ν 260 14 = 1 by rw [v0]; exact h14) (show ν 263 = _ from v3) h.2.1 (fun ω l en _ _ _ => ⟨fun z => absurd z (by decide), fun _ _ _ => ⟨?_, lp_fin (μ := μ) iv rfl l⟩⟩))
    rw [(en.2.1 p0).1, b.2.2.1]
  · have h14 := h.1
    unfold tl_12
    repeat' (first
      | with_reducible refine k_shut h ?_
      | with_reducible refine s_refused ?_
      | with_reducible refine s_good ?_
      | with_reducible refine s_no ?_
      | with_reducible refine (fun _ _ => ⟨fun z => absurd h14 z, fun _ _ _ => ?_⟩ : tX11_laysPlans _ _ _)
      | (intro zq; exact absurd zq (by decide))
      | (intro zq; exact absurd h14 zq)
      | intro _
      | with_reducible refine And.intro ?_ ?_)
    all_goals first | rfl | contradiction | (exact K_no (hK _ (by decide))) | (exact hK _ (by decide)) | omega | (unfold goodI wordF at *; omega) | skip
theorem c_14 {sc : Int → Int} {i : Int} {μ : xM} (hi : Inv μ) : tl_14 sc i μ Inv := by
  have hK : ∀ a, a ≠ 4 → Inv (tr μ a) := fun a => Inv_tr hi
  rcases hi.os with h | h
  · have h14 := h.1
    intro _
    refine k_open h (fun _ _ => ⟨fun z => absurd z (by decide), fun _ => plan_m hi h (fun ν iv ov v3 v0 b _ => ⟨rfl, s_granted (fun _ _ _ _ => ?_)⟩)⟩)
    intro _
    refine s_good (fun _ => r_laysP (R := μ 263) (show ν 260 14 = 1 by rw [v0]; exact h14) (show ν 263 = _ from v3) h.2.1 (fun ω l en _ _ _ => ⟨fun z => absurd z (by decide), fun _ _ _ => ⟨?_, lp_fin (μ := μ) iv rfl l⟩⟩))
    rw [en.2.2.1, b.2.2.2.1]
  · have h14 := h.1
    unfold tl_14
    repeat' (first
      | with_reducible refine k_shut h ?_
      | with_reducible refine s_refused ?_
      | with_reducible refine s_good ?_
      | with_reducible refine s_no ?_
      | with_reducible refine (fun _ _ => ⟨fun z => absurd h14 z, fun _ _ _ => ?_⟩ : tX11_laysPlans _ _ _)
      | (intro zq; exact absurd zq (by decide))
      | (intro zq; exact absurd h14 zq)
      | intro _
      | with_reducible refine And.intro ?_ ?_)
    all_goals first | rfl | contradiction | (exact K_no (hK _ (by decide))) | (exact hK _ (by decide)) | omega | (unfold goodI wordF at *; omega) | skip
theorem c_15 {sc : Int → Int} {i : Int} {μ : xM} (hi : Inv μ) : tl_15 sc i μ Inv := by
  have hK : ∀ a, a ≠ 4 → Inv (tr μ a) := fun a => Inv_tr hi
  rcases hi.os with h | h
  · have h14 := h.1
    intro _
    refine k_open h (fun _ _ => ⟨fun _ => plan_m hi h (fun ν iv ov v3 v0 b _ => ⟨rfl, ?_⟩), fun z => absurd z (by decide)⟩)
    have ref : ∀ r : Int, r = (if (PL (μ 263)).2.2.2.1 ≤ 3 then (PL (μ 263)).2.2.2.1 else -2) → tX11_fewest (wi ν 0 18 0) (fun r' ω => xIn r' → xRan ω → r = r' ∧ Inv ω) := by
      intro r hr _
      refine s_good (fun _ => r_laysP (R := μ 263) (show ν 260 14 = 1 by rw [v0]; exact h14) (show ν 263 = _ from v3) h.2.1 (fun ω l en _ _ _ => ⟨fun z => absurd z (by decide), fun _ _ _ => ⟨?_, lp_fin (μ := μ) iv rfl l⟩⟩))
      rw [en.2.2.2.1, hr]
    rw [b.2.2.2.2.1]
    refine ⟨fun z => s_granted (fun _ _ _ _ => ref _ ?_), fun z => s_granted (fun _ _ _ _ => ref _ ?_)⟩
    · rw [if_pos z]
    · rw [if_neg z]
  · have h14 := h.1
    unfold tl_15
    repeat' (first
      | with_reducible refine k_shut h ?_
      | with_reducible refine s_refused ?_
      | with_reducible refine s_good ?_
      | with_reducible refine s_no ?_
      | with_reducible refine (fun _ _ => ⟨fun z => absurd h14 z, fun _ _ _ => ?_⟩ : tX11_laysPlans _ _ _)
      | (intro zq; exact absurd zq (by decide))
      | (intro zq; exact absurd h14 zq)
      | intro _
      | with_reducible refine And.intro ?_ ?_)
    all_goals first | rfl | contradiction | (exact K_no (hK _ (by decide))) | (exact hK _ (by decide)) | omega | (unfold goodI wordF at *; omega) | skip
theorem c_13 {sc : Int → Int} {i : Int} {μ : xM} (hi : Inv μ) : tl_13 sc i μ Inv := by
  obtain ⟨p, ep⟩ : ∃ w, w = sc (i + 1) := ⟨_, rfl⟩
  unfold tl_13
  rw [← ep]
  have hK : ∀ a, a ≠ 4 → Inv (tr μ a) := fun a => Inv_tr hi
  rcases hi.os with h | h
  · have h14 := h.1
    have bT := h.2.1.T
    have e0 := h.2.2.1.1 0 (by omega)
    have p0 : 0 ≤ (PL (μ 263)).1 := PL_ge h.2.1 (fun c _ => (cntG_rng _ _ _).1)
    by_cases hp : 0 ≤ p ∧ p < μ 263 0
    · intro _ _
      refine ⟨fun z => by omega, fun _ => ⟨fun _ => plan_m hi h (fun ν iv ov v3 v0 b _ => ⟨rfl, ?_⟩), fun z => absurd (show p < μ 39 0 by omega) z⟩⟩
      have e5 : ν (211 + 4) p.toNat = ((PL (μ 263)).2.2.2.2.getD p.toNat 24 : Nat) := b.2.2.2.2.2 p.toNat (by omega)
      intro _ _
      refine ⟨fun z => by omega, fun _ => ⟨fun z => by omega, fun _ => ⟨⟨by omega, by omega⟩, fun _ _ => ?_⟩⟩⟩
      rw [e5]
      have ref : ∀ r : Int, (((PL (μ 263)).2.2.2.2.getD p.toNat 24 : Nat) : Int) ≠ 24 ∧ r = (((PL (μ 263)).2.2.2.2.getD p.toNat 24 : Nat) : Int) ∨ (((PL (μ 263)).2.2.2.2.getD p.toNat 24 : Nat) : Int) = 24 ∧ r = -2 → tX11_plan p (wi ν 0 18 0) (fun r' ω => xIn r' → xRan ω → r = r' ∧ Inv ω) := by
        intro r hr _ _
        refine s_good (fun _ => r_table (R := μ 263) (iOpen_m ov 0) v3 (fun _ _ _ _ => ⟨fun _ => r_laysP (R := μ 263) (show ν 260 14 = 1 by rw [v0]; exact h14) (show ν 263 = _ from v3) h.2.1 (fun ω l en _ _ _ => ⟨⟨by omega, by omega⟩, ?_⟩), fun z => absurd z (by decide)⟩) (fun z => absurd hp z))
        have e274 := (en.2.1 p0).2 p.toNat (by omega)
        rw [e274]
        have iw := lp_fin (μ := μ) iv rfl l
        rcases hr with hr | hr
        · exact ⟨fun _ _ _ => ⟨hr.2, iw⟩, fun z => absurd z hr.1⟩
        · exact ⟨fun z => absurd hr.1 z, fun _ _ _ => ⟨hr.2, iw⟩⟩
      exact ⟨fun z => s_granted (fun _ _ _ _ => ref _ (Or.inl ⟨z, rfl⟩)), fun z => s_granted (fun _ _ _ _ => ref _ (Or.inr ⟨z, rfl⟩))⟩
    · have ref : tX11_plan p (wi μ 0 18 1) (fun r' ω => xIn r' → xRan ω → -1 = r' ∧ Inv ω) := by
        intro _ _
        exact s_good (fun _ => r_table (iOpen_m h _) (m_263 μ _) (fun y1 y2 => absurd ⟨y1, y2⟩ hp) (fun _ _ _ => ⟨fun z => absurd z (by decide), fun _ => s_no (fun _ _ _ _ => ⟨rfl, K_no (hK 1 (by decide))⟩)⟩))
      intro _ _
      refine ⟨fun _ => s_refused (fun _ _ _ _ => ref), fun y => ⟨fun z => absurd ⟨by omega, by omega⟩ hp, fun _ => s_refused (fun _ _ _ _ => ref)⟩⟩
  · have z0 := (h.2.1 0 (by omega)).1
    have ref : tX11_plan p (wi μ 0 18 1) (fun r' ω => xIn r' → xRan ω → -1 = r' ∧ Inv ω) := by
      intro _ _
      exact s_good (fun _ => r_tableS (iShut_m h _) (fun _ _ => ⟨fun z => absurd z (by decide), fun _ => s_no (fun _ _ _ _ => ⟨rfl, K_no (hK 1 (by decide))⟩)⟩))
    intro _ _
    refine ⟨fun _ => s_refused (fun _ _ _ _ => ref), fun y => ⟨fun z => absurd (show p < μ 39 0 from z) (by omega), fun _ => s_refused (fun _ _ _ _ => ref)⟩⟩
/-! wanted, wants -/
def lkS (μ ν : xM) : Prop := (∀ k, k < 221 ∨ 226 ≤ k → ν k = μ k) ∧ ν 221 5 = (LK (μ 263)).2.1 ∧ ∀ c : Nat, c < 26 → ν 222 c = haveF (μ 263) c - needL (μ 263) (LK (μ 263)).2.2 c
theorem s_lack {μ : xM} {Q : Nat → xM → Prop} (h : iOpW μ) (hb : iLack μ) (hq : ∀ ν, lkS μ ν → Q 221 ν) : tX10_lackingPlan μ Q := by
  have hR := h.2.1
  have bN := hR.N
  intro _
  refine ⟨fun z => hq μ ⟨fun _ _ => rfl, hb z⟩, fun z => s_gather (by omega) h (by omega) (fun ν g0 g1 g2 g3 g4 g5 g6 g7 _ => ?_)⟩
  have n3 : ν 263 = μ 263 := g0 263 (by unfold inS; omega)
  have n70 : ν 270 = μ 270 := g0 270 (by unfold inS; omega)
  have on : iOpW ν := iOpW_c (by rw [g0 260 (by unfold inS; omega)]) (fun k hk => g0 k (by unfold inS; omega)) h
  refine s_offerGood (by omega) on g3 (fun ω o1 o2 o3 o4 _ => ?_)
  rw [n3, n70] at o3
  have o4' : ∀ i, (hi2 : i < (offL (offP (μ 263) (μ 270) 6) 0).length) → ω (221 + 2) i = ((offL (offP (μ 263) (μ 270) 6) 0)[i] : Nat) := by
    rw [n3, n70] at o4; exact o4
  have w3 : ω 263 = μ 263 := (o1 263 (by omega) (by omega)).trans n3
  have ow : iOpW ω := iOpW_c (by rw [o1 260 (by omega) (by omega)]) (fun k hk => o1 k (by omega) (by omega)) on
  have sv := srv_of g1 g2 g4 g5 g6 g7 o1 o2 o3 o4'
  have eS : sumN (fun c => xH (μ 263) (-1) c) 26 = μ 263 4 + (if (-1 : Int) = -1 then 0 else 1) := by
    rw [if_pos rfl, Int.add_zero, ← sum_have hR]
    exact sumN_c _ (fun c hc => xH_have c (by omega) (by omega))
  refine s_findLack (by omega) ow w3 (fun c hc => ?_) eS (fun w hw => offP_w hw) offL_len sv (fun ξ f0 f1 f2 f3 _ => hq ξ ⟨fun k hk => ?_, ?_, fun c hc => ?_⟩)
  · have := xH_rng hR (-1) c; omega
  · rw [f0 k (by unfold inS; omega), o1 k (by omega) (by omega), g0 k (by unfold inS; omega)]
  · rw [if_pos rfl, Int.add_zero, offP_6 hR h.2.2.2.2.2.2.2.2.2.2.2.2, lackF_c xH_have] at f1
    exact f1
  · rw [if_pos rfl, Int.add_zero, offP_6 hR h.2.2.2.2.2.2.2.2.2.2.2.2, lackF_c xH_have] at f2
    have := f2 c hc
    rw [xH_have (c : Int) (by omega) (by omega)] at this
    exact this
theorem Inv_lack {μ ν : xM} (hi : Inv μ) (h : iOpen μ) (b : lkS μ ν) : Inv ν := by
  obtain ⟨c1, c2, c3, c4, _⟩ := Inv.cache hi h
  have e : ∀ k, k < 221 ∨ 226 ≤ k → ν k = μ k := b.1
  refine Inv_keep hi h (fun k hk => e k (by omega)) ⟨?_, ?_, ?_, ?_⟩
  · unfold iBest at *
    rw [e 211 (by omega), e 215 (by omega), e 263 (by omega)]; exact c1
  · unfold iRisen at *
    rw [e 216 (by omega), e 263 (by omega), e 270 (by omega)]; exact c2
  · unfold iLack
    rw [e 263 (by omega)]
    exact fun _ => b.2
  · unfold iGain at *
    rw [e 231 (by omega), e 263 (by omega)]; exact c4
theorem lack_m {μ : xM} (hi : Inv μ) (h : iOpen μ) {P : Nat → xM → Prop} (hP : ∀ ν : xM, Inv ν → iOpen ν → ν 263 = μ 263 → ν 260 = μ 260 → lkS μ ν → P 221 ν) : tX10_lackingPlan μ P :=
  s_lack h.w (hi.cache h).2.2.1 (fun ν b => hP ν (Inv_lack hi h b) (iOpen_a (by
    intro k j hn
    by_cases q : k < 221 ∨ 226 ≤ k
    · rw [b.1 k q]
    · have : ascr k j = true := by
        have h1 : 209 ≤ k ∧ k ≤ 248 := by omega
        simp [ascr, cscr, h1]
      rw [this] at hn; exact absurd hn (by decide)) h) (b.1 263 (by omega)) (b.1 260 (by omega)) b)
/-- what is found is lacking nothing, or is the sum of what is -/
theorem lackJ_ok {R : Nat → Int} (hR : okR R) {H : Int → Int} {N : Int} (hS : sumN (fun c => H c) 26 = N) {l : List Nat} (hl : ∀ w ∈ l, (w : Int) < R 3) : (lackF R H N l).2.1 = -1 ∨ (0 ≤ (lackF R H N l).2.1 ∧ fillF R H (lackF R H N l).2.2 ∧ (lackF R H N l).2.1 = lenL R (lackF R H N l).2.2 - N) := by
  have : ∀ (L : List (List Nat)) (s : lS), (∀ r ∈ L, rowW R r) → (s.2.1 = -1 ∨ (0 ≤ s.2.1 ∧ fillF R H s.2.2 ∧ s.2.1 = lenL R s.2.2 - N)) → ((L.foldl (lackJ R H N) s).2.1 = -1 ∨ (0 ≤ (L.foldl (lackJ R H N) s).2.1 ∧ fillF R H (L.foldl (lackJ R H N) s).2.2 ∧ (L.foldl (lackJ R H N) s).2.1 = lenL R (L.foldl (lackJ R H N) s).2.2 - N)) := by
    intro L
    induction L with
    | nil => intro s _ h; exact h
    | cons r L ih =>
      intro s hr h
      rw [List.foldl_cons]
      refine ih _ (fun x hx => hr x (by simp [hx])) ?_
      unfold lackJ
      split
      · rename_i c
        have := (fillF_ov hR (hr r (by simp)) hS).1 c.1
        have on := ovS_nn (H := H) (nd := needL R r)
        exact Or.inr ⟨by simp only; omega, c.1, rfl⟩
      · exact h
  refine this _ _ (fun r hr => ?_) (Or.inl rfl)
  obtain ⟨ext, x1, x2, _⟩ := spreadF_mem _ _ _ _ hr
  rw [x1, List.nil_append]
  exact fun w hw => hl w (x2 w hw)
theorem gbL_w {R : Nat → Int} {w : Nat} (h : w ∈ offL (gb R) 0) : (w : Int) < R 3 := (gb_iff.1 (offL_mem h).2).1
theorem c_16 {sc : Int → Int} {i : Int} {μ : xM} (hi : Inv μ) : tl_16 sc i μ Inv := by
  have hK : ∀ a, a ≠ 4 → Inv (tr μ a) := fun a => Inv_tr hi
  rcases hi.os with h | h
  · have h14 := h.1
    intro _
    refine k_open h (fun _ _ => ⟨fun _ => lack_m hi h (fun ν iv ov v3 v0 b _ => ⟨rfl, ?_⟩), fun z => absurd z (by decide)⟩)
    have ref : ∀ r : Int, (0 ≤ (LK (μ 263)).2.1 ∧ r = (LK (μ 263)).2.1 ∨ ¬ 0 ≤ (LK (μ 263)).2.1 ∧ r = -2) → tX11_wanted_ (wi ν 0 18 0) (fun r' ω => xIn r' → xRan ω → r = r' ∧ Inv ω) := by
      intro r hr _
      refine s_good (fun _ => r_laysL (R := μ 263) (show ν 260 14 = 1 by rw [v0]; exact h14) (show ν 263 = _ from v3) h.2.1 (fun ω l en _ _ _ => ⟨fun z => absurd z (by decide), fun _ _ _ => ⟨?_, lp_fin (μ := μ) iv rfl l⟩⟩))
      rcases en with y | y
      · rw [y.2.2]; omega
      · rw [y.2.2.1]; omega
    rw [b.2.1]
    exact ⟨fun z => s_granted (fun _ _ _ _ => ref _ (Or.inl ⟨z, rfl⟩)), fun z => s_granted (fun _ _ _ _ => ref _ (Or.inr ⟨z, rfl⟩))⟩
  · have h14 := h.1
    unfold tl_16
    repeat' (first
      | with_reducible refine k_shut h ?_
      | with_reducible refine s_refused ?_
      | with_reducible refine s_good ?_
      | with_reducible refine s_no ?_
      | with_reducible refine (fun _ _ => ⟨fun z => absurd h14 z, fun _ _ _ => ?_⟩ : tX11_laysPlans _ _ _)
      | (intro zq; exact absurd zq (by decide))
      | (intro zq; exact absurd h14 zq)
      | intro _
      | with_reducible refine And.intro ?_ ?_)
    all_goals first | rfl | contradiction | (exact K_no (hK _ (by decide))) | (exact hK _ (by decide)) | omega | (unfold goodI wordF at *; omega) | skip
