/-! the class's surveys: what is lacking; letters gathered; words offered -/
theorem need3 {R : Nat → Int} {row : List Nat} (h : row.length ≤ 3) (c : Int) : needL R row c = cntW R (row.getD 0 24) c + cntW R (row.getD 1 24) c + cntW R (row.getD 2 24) c := by
  match row, h with
  | [], _ => simp [needL, cntW_24]
  | [a], _ => simp [needL, cntW_24]
  | [a, b], _ => simp [needL, cntW_24]
  | [a, b, d], _ => simp [needL]; omega
  | _ :: _ :: _ :: _ :: _, h => simp at h
theorem lack_row {R : Nat → Int} {H : Int → Int} {N : Int} {Pr : List Nat → Prop} : ∀ (L : List (List Nat)) (s : lS), Pr s.2.2 → (∀ r ∈ L, Pr r) → Pr (L.foldl (lackJ R H N) s).2.2 := by
  intro L
  induction L with
  | nil => intro s h _; exact h
  | cons r L ih =>
    intro s h hl
    rw [List.foldl_cons]
    refine ih _ ?_ (fun x hx => hl x (by simp [hx]))
    unfold lackJ
    split
    · exact hl r (by simp)
    · exact h
theorem lackF_row {R : Nat → Int} {H : Int → Int} {N : Int} {l : List Nat} (hR : okR R) (hl : ∀ w ∈ l, (w : Int) < R 3) : rowW R (lackF R H N l).2.2 ∧ (lackF R H N l).2.2.length ≤ 3 := by
  have bT := hR.T
  refine lack_row (Pr := fun r => rowW R r ∧ r.length ≤ 3) _ _ ⟨fun w hw => by simp at hw, by simp⟩ (fun r hr => ?_)
  obtain ⟨ext, x1, x2, x3⟩ := spreadF_mem _ _ _ _ hr
  rw [x1, List.nil_append]
  exact ⟨fun w hw => hl w (x2 w hw), by omega⟩
theorem getD_dom {R : Nat → Int} {row : List Nat} (h : rowW R row) (t : Nat) : domF R (row.getD t 24) := by
  by_cases q : t < row.length
  · have e : row.getD t 24 = row[t] := by simp [List.getD_eq_getElem?_getD, List.getElem?_eq_getElem q]
    rw [e]
    exact Or.inl (h _ (List.getElem_mem q))
  · right; exact getD_ge (by omega)
theorem s_findLack {o : Nat} {R : Nat → Int} {H : Int → Int} {N : Int} {l : List Nat} {μ : xM} {Q : xM → Prop} (ho : 211 ≤ o ∧ o ≤ 226) (h : iOpW μ) (eR : μ 263 = R) (hH : ∀ c : Nat, c < 26 → 0 ≤ H c ∧ H c ≤ 100) (hS : sumN (fun c => H c) 26 = N) (hl : ∀ w ∈ l, (w : Int) < R 3) (hl2 : l.length ≤ 24) (s : srv o R H N l μ)
    (hq : ∀ ω : xM, (∀ k, ¬ inS o k → ω k = μ k) → ω o 5 = (lackF R H N l).2.1 → (∀ c : Nat, c < 26 → ω (o + 1) c = H c - needL R (lackF R H N l).2.2 c) → ω o 0 = 1 → Q ω) : tX9_findLack o μ Q := by
  have hR : okR R := by rw [← eR]; exact h.2.1
  have bT := hR.T
  obtain ⟨fw, fl⟩ := lackF_row (H := H) (N := N) hR hl
  intro _
  refine wl fun _ => wl fun _ => wl fun _ => ?_
  refine s_spread (J := lackJ R H N) (enc := encL o) (lim := fun s => s.1) (G := fun _ => True) (N := N) (md := 1) ho h eR hH hl hl2 s.2.2.2.2.2.2.2 (fun s ν e => e.1) ?_ (fun s row z => trivial) ?_ ?_ (R 0).toNat 6 (by omega) [] 0 (18, -1, []) _ _ (by simp) (fun w hw => by simp at hw) trivial (by omega) ?_ (svB_nil hH s (fun k hk => ?_) (fun j p q => ?_) ?_) (fun i hi => by simp at hi) (fun ω e sv ch _ => ?_)
  · rintro s ν ω ⟨b1, b2, b3⟩ e1 e2
    refine ⟨?_, ?_, fun t ht => ?_⟩
    · rw [e2 16 (by omega)]; exact b1
    · rw [e2 5 (by omega)]; exact b2
    · rw [e1]; exact b3 t ht
  · intro s row ext hw hx z
    have q := need_ext hR (H := H) (row := row) hx
    have hwx : rowW R (row ++ ext) := fun w hw2 => by
      rcases List.mem_append.1 hw2 with y | y
      · exact hw w y
      · exact hx w y
    unfold lackJ
    rw [if_neg]
    rintro ⟨y1, y2⟩
    have := (fillF_ov hR hwx hS).1 y1
    omega
  · intro s row ν Q g3 r3 rw1 e sv ch hq2
    refine ⟨fun z => absurd (sv.2.2.2.2.2.1.symm.trans z) (by decide), fun _ => s_judgeL hR hH hS r3 rw1 e sv.2.2.1 sv.2.2.2.1 sv.2.2.2.2.2.2.2 ch hq2⟩
  · refine ⟨?_, ?_, fun t ht => ?_⟩
    · rw [wi_place (by omega), wi_self]
    · rw [wi_self]
    · rw [wi_cell (by omega), wi_cell (by omega), wi_cell (by omega), s.2.2.2.2.2.2.1 t ht]
      simp
  · funext j; rw [wi_cell hk, wi_cell hk, wi_cell hk]
  · rw [wi_place (by omega), wi_place (by omega), wi_place (by omega)]
  · rw [wi_place (by omega), wi_place (by omega), wi_self]
  · obtain ⟨row, er⟩ : ∃ row, row = (lackF R H N l).2.2 := ⟨_, rfl⟩
    have e2 : encL o (lackF R H N l) ω := e
    rw [← er] at fw fl hq
    have ef : ∀ t, t < 3 → ω (o + 4) t = (row.getD t 24 : Nat) := fun t ht => by rw [er]; exact e2.2.2 t ht
    have dm := fun t => getD_dom fw t
    have cr := fun t c => cntW_rng hR (dm t) c
    have lr := fun t => lnF_rng hR (dm t)
    have vr := fun t => vlF_rng hR (dm t)
    refine up1 (n := 3) (fun i ξ => (∀ k, k ≠ o → k ≠ o + 1 → ξ k = ω k) ∧ (∀ j, j ≠ 14 → j ≠ 15 → j ≠ 17 → ξ o j = ω o j) ∧ (∀ c : Nat, c < 26 → ξ (o + 1) c = H c - sumN (fun t => cntW R (row.getD t 24) c) i.toNat) ∧ (0 ≤ ξ o 14 ∧ ξ o 14 ≤ 6 * i) ∧ ξ o 15 = ovS H (fun c => sumN (fun t => cntW R (row.getD t 24) c) i.toNat) ∧ (0 ≤ ξ o 17 ∧ ξ o 17 ≤ 99 * i)) (by omega) ⟨fun _ _ _ => rfl, fun _ _ _ _ => rfl, fun c hc => ?_, ?_, ?_, ?_⟩ ?_
    · rw [sv.2.1 c hc]; simp [needL, sumN]
    · rw [sv.2.2.1]; simp [lenL]
    · rw [sv.2.2.2.1]; exact ovS_c (fun c hc => by simp [needL, sumN])
    · rw [sv.2.2.2.2.1]; simp [valL]
    · rintro i ξ K i0 i1 ⟨x1, x2, x3, x4, x5, x6⟩ _ hK
      obtain ⟨n, rfl⟩ : ∃ n : Nat, i = n := ⟨i.toNat, by omega⟩
      rw [Int.toNat_natCast] at x3 x5 ⊢
      have xo : ∀ k, ¬ inS o k → ξ k = μ k := fun k hk => by
        have : k ≠ o ∧ k ≠ o + 1 ∧ k ≠ o + 3 ∧ k ≠ o + 4 := by unfold inS at hk; omega
        rw [x1 k this.1 this.2.1]; exact sv.1 k this.1 this.2.1 this.2.2.1 this.2.2.2
      have oO : iOpW ξ := iOpW_c (by rw [xo 260 (by unfold inS; omega)]) (fun k hk => xo k (by unfold inS; omega)) h
      have e3 : ξ 263 = R := by rw [xo 263 (by unfold inS; omega), eR]
      refine ⟨⟨by omega, by omega⟩, fun d => wl fun _ => hq _ (fun k hk => ?_) ?_ (fun c hc => ?_) (wi_self _ _ _ _), fun d => ⟨⟨i0, by omega⟩, ?_⟩⟩
      · have : k ≠ o := by unfold inS at hk; omega
        rw [← xo k hk]; funext j; exact wi_cell this
      · rw [wi_place (by omega), x2 5 (by omega) (by omega) (by omega)]; exact e2.2.1
      · rw [wi_cell (by omega), x3 c hc, need3 fl, show n = 3 by omega]
        simp only [sumN]; omega
      · have ex : ξ (o + 4) n = (row.getD n 24 : Nat) := by rw [x1 (o + 4) (by omega) (by omega)]; exact ef n (by omega)
        rw [ex]
        have ndr : ∀ c : Nat, c < 26 → 0 ≤ sumN (fun t => cntW R (row.getD t 24) c) n ∧ sumN (fun t => cntW R (row.getD t 24) c) n ≤ 100 := fun c hc => by
          have a := sumN_le (f := fun _ => 0) (g := fun t => cntW R (row.getD t 24) c) n (fun t _ => (cr t c).1)
          have b := sumN_le (f := fun t => cntW R (row.getD t 24) c) (g := fun _ => 6) n (fun t _ => (cr t c).2)
          rw [sumN_k] at a b
          omega
        have l2 := lr n
        have v2 := vr n
        refine s_take (H := H) (nd := fun c => sumN (fun t => cntW R (row.getD t 24) c) n) ho oO (by rw [e3]; exact dm n) hH ndr x3 (by omega) x5 (by omega) (fun ω' t1 t2 t3 t4 t5 _ => hK ω' (by omega) ?_)
        rw [e3] at t2 t3 t4 t5
        rw [show ((n : Int) + 1).toNat = n + 1 by omega]
        refine ⟨fun k a b => (t1.1 k a b).trans (x1 k a b), fun j a b c => (t1.2 j a b c).trans (x2 j a b c), fun c hc => ?_, by omega, ?_, by omega⟩
        · rw [t2 c hc]; rfl
        · rw [t4]; rfl
theorem s_addLetter {μ : xM} {o : Nat} {x : Int} {Q : xM → Prop} (x0 : 0 ≤ x) (x1 : x < 26) (h1 : 0 ≤ μ (o + 1) x.toNat ∧ μ (o + 1) x.toNat ≤ 100) (h2 : 0 ≤ μ o 13 ∧ μ o 13 ≤ 100) (hq : Q (wi (wi μ (o + 1) x.toNat (μ (o + 1) x.toNat + 1)) o 13 (μ o 13 + 1))) : tX9_addLetter o x μ Q := by
  intro _ _
  refine ⟨fun z => by omega, fun _ => ⟨fun z => by omega, fun _ => ⟨⟨x0, x1⟩, ⟨by omega, by omega⟩, wl fun _ => ?_⟩⟩⟩
  have e : wi μ (o + 1) x.toNat (μ (o + 1) x.toNat + 1) o 13 = μ o 13 := wi_cell (by omega)
  rw [e]
  exact ⟨⟨by omega, by omega⟩, wl fun _ => hq⟩
theorem s_gather {μ : xM} {o : Nat} {x : Int} {Q : xM → Prop} (ho : 211 ≤ o ∧ o ≤ 226) (h : iOpW μ) (xr : -1 ≤ x ∧ x < 26)
    (hq : ∀ ω : xM, (∀ k, ¬ inS o k → ω k = μ k) → (∀ c : Nat, c < 26 → ω (o + 1) c = cntG (μ 263) (μ 263 4).toNat c + if (c : Int) = x then 1 else 0) → ω o 13 = μ 263 4 + (if x = -1 then 0 else 1) → ω o 12 = 0 → ω o 14 = 0 → ω o 15 = 0 → ω o 17 = 0 → (∀ t, t < 3 → ω (o + 4) t = 24) → Q ω) : tX9_gather o x μ Q := by
  have hR := h.2.1
  have bN := hR.N
  intro _ _
  refine s_fill (by omega) (fun _ => wl fun _ => ?_)
  refine up1 (n := μ 263 4) (fun g ξ => (∀ k, k ≠ o → k ≠ o + 1 → ξ k = μ k) ∧ (∀ c : Nat, c < 26 → ξ (o + 1) c = cntG (μ 263) g.toNat c) ∧ ξ o 13 = g) (by omega) ⟨fun k a b => ?_, fun c hc => ?_, wi_self _ _ _ _⟩ ?_
  · funext j; rw [wi_cell a]; unfold fillM; rw [if_neg (by omega)]
  · rw [wi_cell (by omega)]; unfold fillM; rw [if_pos ⟨rfl, hc⟩]; rfl
  · rintro g ξ K g0 g1 ⟨x1, x2, x3⟩ _ hK
    have oO : iOpW ξ := tk_o ho h x1
    have e3 : ξ 263 = μ 263 := x1 263 (by omega) (by omega)
    have e4 : ξ 39 4 = μ 263 4 := by rw [oO.2.2.1.1 4 (by omega), e3]
    have cb : ∀ c : Nat, c < 26 → 0 ≤ ξ (o + 1) c ∧ ξ (o + 1) c ≤ 100 := fun c hc => by
      rw [x2 c hc]
      have := cntG_rng (μ 263) c g.toNat
      omega
    rw [e4]
    refine ⟨⟨by omega, by omega⟩, fun d => ?_, fun d => w_first oO (fun _ _ _ _ => ?_) (fun z => absurd ⟨g0, by rw [e3]; omega⟩ z)⟩
    · have fin : ∀ ξ2 : xM, (∀ k, k ≠ o → k ≠ o + 1 → ξ2 k = μ k) → (∀ c : Nat, c < 26 → ξ2 (o + 1) c = cntG (μ 263) (μ 263 4).toNat c + if (c : Int) = x then 1 else 0) → ξ2 o 13 = μ 263 4 + (if x = -1 then 0 else 1) → xRan ξ2 → (∀ μ14 : xM, μ14 = wi ξ2 o 12 0 → xRan μ14 → (∀ μ17 : xM, μ17 = wi μ14 o 14 0 → xRan μ17 → (∀ μ20 : xM, μ20 = wi μ17 o 15 0 → xRan μ20 → (∀ μ23 : xM, μ23 = wi μ20 o 17 0 → xRan μ23 → (tJ7_fill_53178 (o + 4) 3 24 μ23 (fun μ26 => xRan μ26 → (Q μ26))))))) := by
        intro ξ2 y1 y2 y3 _
        refine wl fun _ => wl fun _ => wl fun _ => wl fun _ => s_fill (by omega) (fun _ => hq _ (fun k hk => ?_) (fun c hc => ?_) ?_ ?_ ?_ ?_ ?_ (fun t ht => ?_))
        · have : k ≠ o ∧ k ≠ o + 1 ∧ k ≠ o + 3 ∧ k ≠ o + 4 := by unfold inS at hk; omega
          rw [← y1 k this.1 this.2.1]
          funext j
          unfold fillM
          rw [if_neg (by omega), wi_cell this.1, wi_cell this.1, wi_cell this.1, wi_cell this.1]
        · unfold fillM
          rw [if_neg (by omega), wi_cell (by omega), wi_cell (by omega), wi_cell (by omega), wi_cell (by omega)]; exact y2 c hc
        · unfold fillM
          rw [if_neg (by omega), wi_place (by omega), wi_place (by omega), wi_place (by omega), wi_place (by omega)]; exact y3
        · unfold fillM
          rw [if_neg (by omega), wi_place (by omega), wi_place (by omega), wi_place (by omega), wi_self]
        · unfold fillM
          rw [if_neg (by omega), wi_place (by omega), wi_place (by omega), wi_self]
        · unfold fillM
          rw [if_neg (by omega), wi_place (by omega), wi_self]
        · unfold fillM
          rw [if_neg (by omega), wi_self]
        · unfold fillM
          rw [if_pos ⟨rfl, ht⟩]
      have eg : g.toNat = (μ 263 4).toNat := by omega
      rw [eg] at x2
      by_cases xz : x = -1
      · subst xz
        intro _ _
        refine ⟨fun _ => fin ξ x1 (fun c hc => ?_) ?_, fun z => absurd (by decide) z⟩
        · rw [x2 c hc, if_neg (by omega)]; omega
        · rw [x3, if_pos rfl]; omega
      · obtain ⟨xn, exn⟩ : ∃ xn : Nat, x = xn := ⟨x.toNat, by omega⟩
        have cx := cb x.toNat (by omega)
        refine s_addLetter (by omega) xr.2 cx (by omega) (fin _ (fun k a b => ?_) (fun c hc => ?_) ?_)
        · rw [← x1 k a b]; funext j; rw [wi_cell a, wi_cell b]
        · rw [wi_cell (by omega)]
          by_cases q : c = x.toNat
          · subst q; rw [wi_self, x2 _ hc, if_pos (by omega)]
          · rw [wi_place q, x2 c hc, if_neg (by omega)]; omega
        · rw [wi_self, x3, if_neg xz]; omega
    · rw [e3]
      have bx := hR.fst (g := g.toNat) (by omega)
      refine s_addLetter bx.1 (by omega) (cb _ (by omega)) (by omega) (fun _ => hK _ (by omega) ⟨fun k a b => ?_, fun c hc => ?_, ?_⟩)
      · rw [← x1 k a b]; funext j; rw [wi_cell a, wi_cell b]
      · rw [wi_cell (by omega), show (g + 1).toNat = g.toNat + 1 by omega]
        simp only [cntG]
        by_cases q : c = (μ 263 (295 + g.toNat)).toNat
        · subst q; rw [wi_self, x2 _ hc, if_pos (by omega)]
        · rw [wi_place q, x2 c hc, if_neg (by omega)]; omega
      · rw [wi_self, x3]
/-! words offered -/
noncomputable def offP (R : Nat → Int) (C : Nat → Int) (hi : Int) (w : Nat) : Bool := gb R w && decide (C w ≤ hi)
theorem w_good {μ : xM} {w : Int} {Q : Int → xM → Prop} (h : iOpW μ) (h1 : goodI (μ 263) w → Q 1 μ) (h0 : ¬ goodI (μ 263) w → Q 0 μ) : tX2_isGood 39 w μ Q := by
  have a3 := h.2.2.1.1 3 (by omega)
  have a1 := h.2.2.1.1 1 (by omega)
  have b := h.2.1.W
  have c := h.2.2.1.2.1 w.toNat
  refine s_hGood (fun q => h1 ?_) (fun q => h0 (fun z => q ?_))
  · obtain ⟨⟨q1, q2, q3⟩, q4, q5⟩ := q
    have c := c (by omega) (by omega)
    exact ⟨⟨q1, by omega⟩, by rw [← c.2.2.1]; exact q4, by rw [← c.1, ← a1]; exact q5⟩
  · obtain ⟨⟨q1, q2⟩, q4, q5⟩ := z
    have c := c (by omega) (by omega)
    refine ⟨⟨q1, by omega, by omega⟩, c.2.2.1.trans q4, ?_⟩
    show μ 40 w.toNat ≤ μ 39 1
    rw [c.1, a1]; exact q5
theorem offR_out {P : Nat → Bool} {n : Nat} (hP : ∀ w, n ≤ w → P w = false) (hn : n ≤ 24) : offL P 0 = (List.range n).filter P := by
  unfold offL
  rw [show (24 - 0 : Nat) = n + (24 - n) by omega, ← List.range_eq_range', List.range_add, List.filter_append]
  have : ((List.range (24 - n)).map (n + ·)).filter P = [] := by
    rw [List.filter_eq_nil_iff]
    intro a ha
    obtain ⟨b, _, rfl⟩ := List.mem_map.1 ha
    rw [hP _ (by omega)]; decide
  rw [this, List.append_nil]
theorem s_offerGood {μ : xM} {o : Nat} {hi : Int} {Q : xM → Prop} (ho : 211 ≤ o ∧ o ≤ 226) (h : iOpW μ) (h12 : μ o 12 = 0)
    (hq : ∀ ω : xM, (∀ k, k ≠ o → k ≠ o + 2 → ω k = μ k) → (∀ j, j ≠ 12 → ω o j = μ o j) → ω o 12 = (offL (offP (μ 263) (μ 270) hi) 0).length → (∀ i, (hi2 : i < (offL (offP (μ 263) (μ 270) hi) 0).length) → ω (o + 2) i = ((offL (offP (μ 263) (μ 270) hi) 0)[i] : Nat)) → Q ω) : tX10_offerGood o hi μ Q := by
  have hR := h.2.1
  have bW := hR.W
  obtain ⟨P, hP⟩ : ∃ P, P = offP (μ 263) (μ 270) hi := ⟨_, rfl⟩
  rw [← hP] at hq
  have Pg : ∀ w, P w = true → goodF (μ 263) w := fun w hw => by
    rw [hP] at hw
    unfold offP at hw
    rw [Bool.and_eq_true] at hw
    exact gb_iff.1 hw.1
  have hout : offL P 0 = (List.range (μ 263 3).toNat).filter P := offR_out (fun w hw => by
    cases e : P w with
    | false => rfl
    | true => have := (Pg w e).1; omega) (by omega)
  rw [hout] at hq
  intro _ _
  refine up1 (n := μ 263 3) (fun w ξ => (∀ k, k ≠ o → k ≠ o + 2 → ξ k = μ k) ∧ (∀ j, j ≠ 12 → ξ o j = μ o j) ∧ ξ o 12 = ((List.range w.toNat).filter P).length ∧ rowL (ξ (o + 2)) ((List.range w.toNat).filter P)) (by omega) ⟨fun _ _ _ => rfl, fun _ _ => rfl, by rw [h12]; rfl, fun i hi => by simp at hi⟩ ?_
  rintro w ξ K w0 w1 ⟨x1, x2, x3, x4⟩ _ hK
  obtain ⟨n, rfl⟩ : ∃ n : Nat, w = n := ⟨w.toNat, by omega⟩
  rw [Int.toNat_natCast] at x3 x4
  have oO : iOpW ξ := iOpW_c (by rw [x1 260 (by omega) (by omega)]) (fun k hk => x1 k (by omega) (by omega)) h
  have e3 : ξ 263 = μ 263 := x1 263 (by omega) (by omega)
  have e33 : ξ 39 3 = μ 263 3 := by rw [oO.2.2.1.1 3 (by omega), e3]
  have e70 : ξ 270 = μ 270 := x1 270 (by omega) (by omega)
  have nn : ((n : Int) + 1).toNat = n + 1 := by omega
  have skip : P n = false → (n : Int) < μ 263 3 → K (n + 1) ξ := fun e l => hK ξ l ⟨x1, x2, by rw [nn, List.range_succ, List.filter_append]; simp [e, x3], by rw [nn, List.range_succ, List.filter_append]; simpa [e] using x4⟩
  rw [e33]
  refine ⟨⟨by omega, by omega⟩, fun d => ?_, fun d => w_good oO (fun g _ _ => ⟨fun z => absurd z (by decide), fun _ => s_riseOf (by omega) (by omega) (fun _ _ => ?_)⟩) (fun g _ _ => ⟨fun _ => skip ?_ (by omega), fun z => absurd z (by decide)⟩)⟩
  · have en : n = (μ 263 3).toNat := by omega
    rw [← en] at hq
    exact hq ξ x1 x2 x3 x4
  · rw [e3] at g
    have gF := (goodI_nat (by omega)).1 g
    rw [Int.toNat_natCast] at gF ⊢
    have er : ξ 207 n = μ 270 n := by rw [(oO.2.2.2.2.2.2.2.2.1 n (by rw [e3]; omega)).2, e70]
    rw [er]
    have eP : P n = decide (μ 270 n ≤ hi) := by rw [hP]; unfold offP; rw [gb_iff.2 gF, Bool.true_and]
    refine ⟨fun z => skip (by rw [eP]; simp; omega) (by omega), fun z => ?_⟩
    have lt : ((List.range n).filter P).length ≤ n := Nat.le_trans (List.length_filter_le _ _) (by simp)
    have yP : P n = true := by rw [eP]; simp; omega
    have ef : (List.range (n + 1)).filter P = (List.range n).filter P ++ [n] := by rw [List.range_succ, List.filter_append]; simp [yP]
    intro _ _
    refine ⟨fun z2 => absurd (show (24 : Int) ≤ ξ o 12 from z2) (by omega), fun _ => ⟨⟨by omega, by omega⟩, wl fun _ => ?_⟩⟩
    have e12 : ∀ A B, wi ξ (o + 2) A B o 12 = ξ o 12 := fun A B => wi_cell (by omega)
    rw [e12]
    refine ⟨⟨by omega, by omega⟩, wl fun _ _ => hK _ (by omega) ⟨fun k a b => ?_, fun j hj => ?_, ?_, ?_⟩⟩
    · rw [← x1 k a b]; funext j; rw [wi_cell a, wi_cell b]
    · rw [wi_place hj, wi_cell (by omega)]; exact x2 j hj
    · rw [wi_self, nn, ef, x3]; simp
    · rw [nn, ef]
      refine rowL_s (rowL_c x4 (fun i hi => ?_)) ?_
      · rw [wi_cell (by omega), wi_place (by omega)]
      · rw [wi_cell (by omega), show (ξ o 12).toNat = ((List.range n).filter P).length by omega, wi_self]
  · rw [e3] at g
    cases e : P n with
    | false => rfl
    | true => exact absurd ((goodI_nat (by omega)).2 (by rw [Int.toNat_natCast]; exact Pg n e)) g
