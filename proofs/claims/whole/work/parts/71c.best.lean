/-! what the class keeps of plans -/
noncomputable def PL (R : Nat → Int) : pS := planF R (haveF R) (R 4) (offL (gb R) 0)
noncomputable def LK (R : Nat → Int) : lS := lackF R (haveF R) (R 4) (offL (gb R) 0)
theorem fitF_c {R : Nat → Int} {H H' : Int → Int} {row : List Nat} (h : ∀ c : Int, 0 ≤ c → c < 26 → H' c = H c) : fitF R H' row ↔ fitF R H row := by
  unfold fitF
  constructor
  · intro z c a b; rw [← h c a b]; exact z c a b
  · intro z c a b; rw [h c a b]; exact z c a b
theorem fillF_c {R : Nat → Int} {H H' : Int → Int} {row : List Nat} (h : ∀ c : Int, 0 ≤ c → c < 26 → H' c = H c) : fillF R H' row ↔ fillF R H row := by
  unfold fillF
  constructor
  · intro z c a b; rw [← h c a b]; exact z c a b
  · intro z c a b; rw [h c a b]; exact z c a b
theorem planF_c {R : Nat → Int} {H H' : Int → Int} {N : Int} {l : List Nat} (h : ∀ c : Int, 0 ≤ c → c < 26 → H' c = H c) : planF R H' N l = planF R H N l := by
  unfold planF
  refine foldl_c _ _ (fun s row _ => ?_)
  unfold judgeF
  by_cases c : fitF R H row
  · rw [if_pos c, if_pos ((fitF_c h).2 c)]
  · rw [if_neg c, if_neg (fun z => c ((fitF_c h).1 z))]
theorem lackF_c {R : Nat → Int} {H H' : Int → Int} {N : Int} {l : List Nat} (h : ∀ c : Int, 0 ≤ c → c < 26 → H' c = H c) : lackF R H' N l = lackF R H N l := by
  unfold lackF
  refine foldl_c _ _ (fun s row _ => ?_)
  unfold lackJ
  by_cases c : fillF R H row ∧ lenL R row - N ≤ s.1
  · rw [if_pos c, if_pos ⟨(fillF_c h).2 c.1, c.2⟩]
  · rw [if_neg c, if_neg (fun z => c ⟨(fillF_c h).1 z.1, z.2⟩)]
theorem mnL_leq {f : Nat → Int} : ∀ (l : List Nat) (a : Int), mnL f a l ≤ a := by
  intro l
  induction l with
  | nil => intro a; exact Int.le_refl _
  | cons w l ih =>
    intro a
    show mnL f (if w = 24 then a else min a (f w)) l ≤ a
    refine Int.le_trans (ih _) ?_
    split <;> omega
theorem offP_6 {R C : Nat → Int} (hR : okR R) (hC : isRise R C) : offL (offP R C 6) 0 = offL (gb R) 0 := by
  unfold offL
  refine List.filter_congr (fun w hw => ?_)
  unfold offP
  cases e : gb R w with
  | false => rfl
  | true =>
    have g := gb_iff.1 e
    have a := hC w g.1
    have b := mnL_leq (f := C) (downsF R w) (R (7 + w))
    have c := hR.len g.1
    rw [← a] at b
    simp; omega
theorem offL_len {P : Nat → Bool} : (offL P 0).length ≤ 24 := by
  unfold offL
  exact Nat.le_trans (List.length_filter_le _ _) (by simp)
theorem offP_w {R C : Nat → Int} {hi : Int} {w : Nat} (h : w ∈ offL (offP R C hi) 0) : (w : Int) < R 3 := by
  have := (offL_mem h).2
  unfold offP at this
  rw [Bool.and_eq_true] at this
  exact (gb_iff.1 this.1).1
def xH (R : Nat → Int) (x : Int) : Int → Int := fun c => cntG R (R 4).toNat c + if c = x then 1 else 0
theorem xH_rng {R : Nat → Int} (hR : okR R) (x c : Int) : 0 ≤ xH R x c ∧ xH R x c ≤ 9 := by
  have bN := hR.N
  have := cntG_rng R c (R 4).toNat
  unfold xH
  split <;> omega
theorem srv_of {μ ν ω : xM} {o : Nat} {x : Int} {l : List Nat} (g1 : ∀ c : Nat, c < 26 → ν (o + 1) c = cntG (μ 263) (μ 263 4).toNat c + if (c : Int) = x then 1 else 0) (g2 : ν o 13 = μ 263 4 + (if x = -1 then 0 else 1)) (g4 : ν o 14 = 0) (g5 : ν o 15 = 0) (g6 : ν o 17 = 0) (g7 : ∀ t, t < 3 → ν (o + 4) t = 24)
    (o1 : ∀ k, k ≠ o → k ≠ o + 2 → ω k = ν k) (o2 : ∀ j, j ≠ 12 → ω o j = ν o j) (o3 : ω o 12 = l.length) (o4 : ∀ i, (hi2 : i < l.length) → ω (o + 2) i = (l[i] : Nat)) : srv o (μ 263) (xH (μ 263) x) (μ 263 4 + (if x = -1 then 0 else 1)) l ω := by
  refine ⟨fun c hc => ?_, o3, ?_, ?_, ?_, ?_, fun t ht => ?_, o4⟩
  · rw [o1 (o + 1) (by omega) (by omega)]; exact g1 c hc
  · rw [o2 13 (by omega)]; exact g2
  · rw [o2 14 (by omega)]; exact g4
  · rw [o2 15 (by omega)]; exact g5
  · rw [o2 17 (by omega)]; exact g6
  · rw [o1 (o + 4) (by omega) (by omega)]; exact g7 t ht
theorem s_survey {μ : xM} {o : Nat} {x hi : Int} {Q : xM → Prop} (ho : 211 ≤ o ∧ o ≤ 226) (h : iOpW μ) (xr : -1 ≤ x ∧ x < 26)
    (hq : ∀ ν : xM, (∀ k, k < o ∨ o + 5 ≤ k → ν k = μ k) → ν o 1 = (planF (μ 263) (xH (μ 263) x) (μ 263 4 + (if x = -1 then 0 else 1)) (offL (offP (μ 263) (μ 270) hi) 0)).1 → ν o 2 = (planF (μ 263) (xH (μ 263) x) (μ 263 4 + (if x = -1 then 0 else 1)) (offL (offP (μ 263) (μ 270) hi) 0)).2.1 → ν o 3 = (planF (μ 263) (xH (μ 263) x) (μ 263 4 + (if x = -1 then 0 else 1)) (offL (offP (μ 263) (μ 270) hi) 0)).2.2.1 → ν o 4 = (planF (μ 263) (xH (μ 263) x) (μ 263 4 + (if x = -1 then 0 else 1)) (offL (offP (μ 263) (μ 270) hi) 0)).2.2.2.1 → (∀ t, t < 3 → ν (o + 4) t = ((planF (μ 263) (xH (μ 263) x) (μ 263 4 + (if x = -1 then 0 else 1)) (offL (offP (μ 263) (μ 270) hi) 0)).2.2.2.2.getD t 24 : Nat)) → ν o 0 = 1 → Q ν) :
    tX9_gather o x μ (fun μ3 => xRan μ3 → tX10_offerGood o hi μ3 (fun μ5 => xRan μ5 → tX9_findPlans o μ5 (fun μ7 => xRan μ7 → Q μ7))) := by
  have hR := h.2.1
  refine s_gather ho h xr (fun ν g0 g1 g2 g3 g4 g5 g6 g7 _ => ?_)
  have n3 : ν 263 = μ 263 := g0 263 (by unfold inS; omega)
  have n70 : ν 270 = μ 270 := g0 270 (by unfold inS; omega)
  have on : iOpW ν := iOpW_c (by rw [g0 260 (by unfold inS; omega)]) (fun k hk => g0 k (by unfold inS; omega)) h
  refine s_offerGood ho on g3 (fun ω o1 o2 o3 o4 _ => ?_)
  rw [n3, n70] at o3
  have o4' : ∀ i, (hi2 : i < (offL (offP (μ 263) (μ 270) hi) 0).length) → ω (o + 2) i = ((offL (offP (μ 263) (μ 270) hi) 0)[i] : Nat) := by
    rw [n3, n70] at o4; exact o4
  have w3 : ω 263 = μ 263 := (o1 263 (by omega) (by omega)).trans n3
  have ow : iOpW ω := iOpW_c (by rw [o1 260 (by omega) (by omega)]) (fun k hk => o1 k (by omega) (by omega)) on
  refine s_findPlans ho ow w3 (fun c hc => ?_) (fun w hw => offP_w hw) offL_len (srv_of g1 g2 g4 g5 g6 g7 o1 o2 o3 o4') (fun ξ f0 f1 f2 f3 f4 f5 f6 _ => hq ξ (fun k hk => ?_) f1 f2 f3 f4 f5 f6)
  · have := xH_rng hR x c; omega
  · rw [f0 k (by unfold inS; omega), o1 k (by omega) (by omega), g0 k (by unfold inS; omega)]
theorem xH_have {R : Nat → Int} : ∀ c : Int, 0 ≤ c → c < 26 → xH R (-1) c = haveF R c := fun c a b => by unfold xH haveF; rw [if_neg (by omega)]; omega
def bsS (μ ν : xM) : Prop := (∀ k, k < 211 ∨ 216 ≤ k → ν k = μ k) ∧ ν 211 1 = (PL (μ 263)).1 ∧ ν 211 2 = (PL (μ 263)).2.1 ∧ ν 211 3 = (PL (μ 263)).2.2.1 ∧ ν 211 4 = (PL (μ 263)).2.2.2.1 ∧ ∀ t, t < 3 → ν 215 t = ((PL (μ 263)).2.2.2.2.getD t 24 : Nat)
theorem s_best {μ : xM} {Q : Nat → xM → Prop} (h : iOpW μ) (hb : iBest μ) (hq : ∀ ν, bsS μ ν → Q 211 ν) : tX10_bestPlan μ Q := by
  have hR := h.2.1
  intro _
  refine ⟨fun z => hq μ ?_, fun z => s_survey (by omega) h (by omega) (fun ν v0 v1 v2 v3 v4 v5 v6 => hq ν ?_)⟩
  · exact ⟨fun _ _ => rfl, hb z⟩
  · rw [if_pos rfl, Int.add_zero, offP_6 hR h.2.2.2.2.2.2.2.2.2.2.2.2, planF_c xH_have] at v1 v2 v3 v4 v5
    exact ⟨v0, v1, v2, v3, v4, v5⟩
theorem Inv_keep {μ ν : xM} (hi : Inv μ) (h : iOpen μ) (e : ∀ k, k < 211 ∨ 232 ≤ k → ν k = μ k) (hc : iBest ν ∧ iRisen ν ∧ iLack ν ∧ iGain ν) : Inv ν := by
  have h5 := Inv.cache hi h
  have sa : asame μ ν := by
    intro k j hn
    by_cases q : k < 211 ∨ 232 ≤ k
    · rw [e k q]
    · have : ascr k j = true := by
        have h1 : 209 ≤ k ∧ k ≤ 248 := by omega
        simp [ascr, cscr, h1]
      rw [this] at hn; exact absurd hn (by decide)
  obtain ⟨h1, h2, h3, _⟩ := hi
  refine ⟨iTape_a sa h1, ?_, ?_, Or.inl ⟨iOpen_a sa h, hc.1, hc.2.1, hc.2.2.1, hc.2.2.2, ?_, ?_⟩⟩
  · unfold iErr at *
    rw [e 35 (by omega), e 260 (by omega), e 0 (by omega)]; exact h2
  · exact iBase_c (fun k hk => e k (by omega)) (by rw [e 236 (by omega)]) (by rw [e 236 (by omega)]) h3
  · have := h5.2.2.2.2.1
    unfold iSit at *
    rw [e 233 (by omega), e 263 (by omega)]; exact this
  · have := h5.2.2.2.2.2
    unfold iHop at *
    rw [e 234 (by omega), e 263 (by omega)]; exact this
theorem Inv_best {μ ν : xM} (hi : Inv μ) (h : iOpen μ) (b : bsS μ ν) : Inv ν := by
  obtain ⟨c1, c2, c3, c4, _⟩ := Inv.cache hi h
  have e : ∀ k, k < 211 ∨ 216 ≤ k → ν k = μ k := b.1
  refine Inv_keep hi h (fun k hk => e k (by omega)) ⟨?_, ?_, ?_, ?_⟩
  · unfold iBest
    rw [e 263 (by omega)]
    exact fun _ => b.2
  · unfold iRisen at *
    rw [e 216 (by omega), e 263 (by omega), e 270 (by omega)]; exact c2
  · unfold iLack at *
    rw [e 221 (by omega), e 222 (by omega), e 263 (by omega)]; exact c3
  · unfold iGain at *
    rw [e 231 (by omega), e 263 (by omega)]; exact c4
/-- a memory in which the reference has laid plans -/
theorem Inv_rp {ν ω : xM} {a : Int} (hi : Inv ν) (h : ∀ k, k ≠ 0 → k ≠ 260 → ¬ (272 ≤ k ∧ k ≤ 275) → ω k = ν k) (h0 : ∀ j, j ≠ 18 → ω 0 j = ν 0 j) (h18 : ω 0 18 = a) (h260 : ∀ j, j ≠ 0 → j ≠ 11 → ¬ (29 ≤ j ∧ j ≤ 33) → ω 260 j = ν 260 j) (h11 : ω 260 11 = a) (ha : a ≠ 4) : Inv ω := by
  refine Inv_ro hi ⟨?_, ?_, ?_, h18, h11⟩ ha (iBase_c (fun k hk => h k (by omega) (by omega) (by omega)) ?_ ?_ hi.2.2.1) (fun _ q => iCache_c (fun k hk => h k (by omega) (by omega) (by omega)) q)
  · intro k j hn
    by_cases q0 : k = 0
    · subst q0
      by_cases y : j = 18
      · subst y; exact absurd hn (by decide)
      · exact h0 j y
    by_cases q1 : k = 260
    · subst q1
      by_cases y : j = 0
      · subst y; exact absurd hn (by decide)
      by_cases y2 : j = 11
      · subst y2; exact absurd hn (by decide)
      by_cases y3 : 29 ≤ j ∧ j ≤ 33
      · have : ascr 260 j = true := by simp [ascr, rscr, y3]
        rw [this] at hn; exact absurd hn (by decide)
      exact h260 j y y2 y3
    by_cases q2 : 272 ≤ k ∧ k ≤ 275
    · have : ascr k j = true := by
        have h1 : 271 ≤ k := by omega
        simp [ascr, rscr, h1]
      rw [this] at hn; exact absurd hn (by decide)
    rw [h k q0 q1 q2]
  · rw [h 35 (by omega) (by omega) (by omega)]
  · exact h260 9 (by omega) (by omega) (by omega)
  · rw [h 236 (by omega) (by omega) (by omega)]
  · rw [h 236 (by omega) (by omega) (by omega)]
def lpS (ν ω : xM) : Prop := (∀ k, k ≠ 260 → ¬ (272 ≤ k ∧ k ≤ 275) → ω k = ν k) ∧ (∀ j, ¬ (29 ≤ j ∧ j ≤ 33) → ω 260 j = ν 260 j)
theorem sum_have {R : Nat → Int} (hR : okR R) : sumN (fun c => haveF R c) 26 = R 4 := by
  have bN := hR.N
  unfold haveF
  rw [sum_cntG hR (R 4).toNat (by omega)]; omega
theorem r_laysP {μ : xM} {R : Nat → Int} {Q : Int → xM → Prop} (h14 : μ 260 14 = 1) (e : μ 263 = R) (hR : okR R) (hq : ∀ ω : xM, lpS μ ω → encRP (PL R) ω → (∀ c : Nat, c < 26 → ω 273 c = haveF R c) → Q 1 ω) : tX11_laysPlans 0 μ Q := by
  have bN := hR.N
  intro _ _
  refine ⟨fun _ => r_layLetters e hR (fun ν n1 n2 _ => r_plansP (H := haveF R) (N := R 4) ((n1 263 (by omega)).trans e) hR n2 (fun c _ => ?_) (sum_have hR) (fun ω en rp _ => hq ω ⟨fun k a b => ?_, fun j p => ?_⟩ en (fun c hc => ?_))), fun z => absurd (h14.symm.trans z) (by decide)⟩
  · have := cntG_rng R c (R 4).toNat; unfold haveF; omega
  · rw [rp.1 k a (by omega) (by omega) (by omega), n1 k (by omega)]
  · rw [rp.2 j p, n1 260 (by omega)]
  · rw [rp.1 273 (by omega) (by omega) (by omega) (by omega)]; exact n2 c hc
theorem r_laysL {μ : xM} {R : Nat → Int} {Q : Int → xM → Prop} (h14 : μ 260 14 = 1) (e : μ 263 = R) (hR : okR R) (hq : ∀ ω : xM, lpS μ ω → encRL (LK R) ω → (∀ c : Nat, c < 26 → ω 273 c = haveF R c) → Q 1 ω) : tX11_laysPlans 1 μ Q := by
  have bN := hR.N
  intro _ _
  refine ⟨fun _ => r_layLetters e hR (fun ν n1 n2 _ => r_plansL (H := haveF R) (N := R 4) ((n1 263 (by omega)).trans e) hR n2 (fun c _ => ?_) (sum_have hR) (by omega) (fun ω en rp _ => hq ω ⟨fun k a b => ?_, fun j p => ?_⟩ en (fun c hc => ?_))), fun z => absurd (h14.symm.trans z) (by decide)⟩
  · have := cntG_rng R c (R 4).toNat; unfold haveF; omega
  · rw [rp.1 k a (by omega) (by omega) (by omega), n1 k (by omega)]
  · rw [rp.2 j p, n1 260 (by omega)]
  · rw [rp.1 273 (by omega) (by omega) (by omega) (by omega)]; exact n2 c hc
theorem PL_ge {R : Nat → Int} (hR : okR R) {H : Int → Int} (hH : ∀ c : Nat, c < 26 → 0 ≤ H c) {N : Int} {l : List Nat} : 0 ≤ (planF R H N l).1 := by
  have bT := hR.T
  unfold planF
  obtain ⟨n, hn⟩ : ∃ n, (R 0).toNat = n + 1 := ⟨(R 0).toNat - 1, by omega⟩
  rw [hn]
  simp only [spreadF, List.foldl_append, List.foldl_cons, List.foldl_nil]
  generalize List.foldl (judgeF R H N) (-1, -1, 0, 4, []) (spreadT (fun t p => spreadF n t ([] ++ [p])) l) = s
  unfold judgeF
  rw [if_pos]
  · unfold judge1
    have l0 : lenL R [] = 0 := by simp [lenL]
    rw [l0]
    split
    · simp
    · simp only; omega
  · rw [fitF_nat]
    intro c hc
    have := hH c hc
    simp [needL]; omega
/-- after the class's best plan: what the reference says -/
theorem lp_fin {μ ν M ω : xM} (hi : Inv ν) (eM : M = wi (wi (wi ν 0 18 0) 260 0 0) 260 11 0) (l : lpS M ω) : Inv ω := by
  refine Inv_rp (a := 0) hi (fun k a b c => ?_) (fun j hj => ?_) ?_ (fun j a b c => ?_) ?_ (by decide)
  · rw [l.1 k b c, eM]; funext j; rw [wi_cell b, wi_cell b, wi_cell a]
  · rw [l.1 0 (by omega) (by omega), eM, wi_cell (by omega), wi_cell (by omega), wi_place hj]
  · rw [l.1 0 (by omega) (by omega), eM, wi_cell (by omega), wi_cell (by omega), wi_self]
  · rw [l.2 j c, eM, wi_place b, wi_place a, wi_cell (by omega)]
  · rw [l.2 11 (by omega), eM, wi_self]
