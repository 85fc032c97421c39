/-! rises, from the shortest words on; settle whole -/
def dnI (a : Nat → Int) (R : Nat → Int) (P : Nat → Prop) : Prop := ∀ u : Nat, (u : Int) < R 3 → P u → a u = mnL a (R (7 + u)) (downsF R u)
theorem downs_ln {R : Nat → Int} {u v : Nat} (h : u ∈ downsF R v) (hu : u ≠ 24) : (u : Int) < R 3 ∧ R (7 + v) = R (7 + u) + 1 := by
  have g := (byF_ge (downsF_mem.1 h).2).2
  rcases g with q | q
  · exact absurd q.1 hu
  · exact ⟨q.2.1.1, q.2.2⟩
theorem mnL_c {a b : Nat → Int} {x : Int} : ∀ l : List Nat, (∀ v ∈ l, v ≠ 24 → a v = b v) → mnL a x l = mnL b x l := by
  intro l h
  refine foldl_c _ _ (fun y v hv => ?_)
  by_cases e : v = 24
  · simp [e]
  · simp only [e, if_false]; rw [h v hv e]
theorem dnI_put {a a' : Nat → Int} {R : Nat → Int} {P : Nat → Prop} {n : Int} {w : Nat} (h : dnI a R P) (hP2 : ∀ u : Nat, (u : Int) < R 3 → P u → R (7 + u) ≤ n) (hw : (w : Int) < R 3 → R (7 + w) = n) (ha : ∀ u, u ≠ w → a' u = a u)
    (ea : (w : Int) < R 3 → a' w = mnL a n (downsF R w)) : dnI a' R (fun u => P u ∨ u = w) := by
  have ca : ∀ u : Nat, (u : Int) < R 3 → R (7 + u) ≤ n → mnL a' (R (7 + u)) (downsF R u) = mnL a (R (7 + u)) (downsF R u) := by
    intro u du hu
    refine mnL_c _ (fun v hv v24 => ha v ?_)
    rintro rfl
    have q := downs_ln hv v24
    have := hw q.1
    omega
  intro u du hu
  by_cases e : u = w
  · subst e
    have := hw du
    rw [ca u du (by omega), ea du, this]
  · have pu := hu.resolve_right e
    rw [ca u du (hP2 u du pu), ha u e]
    exact h u du pu
theorem mnL_snoc {f : Nat → Int} {a : Int} {l : List Nat} {v : Nat} : mnL f a (l ++ [v]) = if v = 24 then mnL f a l else min (mnL f a l) (f v) := by simp [mnL]
theorem mnL_in {f : Nat → Int} (hf : ∀ v, xIn (f v)) : ∀ (l : List Nat) (a : Int), xIn a → xIn (mnL f a l) := by
  intro l
  induction l with
  | nil => intro a h; exact h
  | cons v l ih =>
    intro a h
    show xIn (mnL f (if v = 24 then a else min a (f v)) l)
    refine ih _ ?_
    split
    · exact h
    · exact xmin_in h (hf v)
theorem downsF_len {R : Nat → Int} {v : Nat} : (downsF R v).length ≤ 25 := by
  unfold downsF
  exact Nat.le_trans (List.length_filter_le _ _) (by simp)
theorem s_lookDown {μ : xM} {R : Nat → Int} {n : Int} {Q : xM → Prop} (h : iHo μ R) (hl : lnk μ R 25 0) (n0 : 1 ≤ n) (n6 : n ≤ 6) (hu : dnI (μ 207) R (fun u => R (7 + u) < n))
    (hq : ∀ ν, (∀ k, k ≠ 207 → ν k = μ k) → dnI (ν 207) R (fun u => R (7 + u) ≤ n) → Q ν) : tX1_lookDown n μ Q := by
  have hR := h.1
  have bW := hR.W
  intro _ _
  refine up1 (n := 24) (fun w ν => (∀ k, k ≠ 207 → ν k = μ k) ∧ dnI (ν 207) R (fun u => R (7 + u) < n ∨ (R (7 + u) = n ∧ (u : Int) < w))) (by omega) ⟨fun _ _ => rfl, fun u du hu2 => hu u du (by omega)⟩ ?_
  rintro w ν K w0 w1 ⟨f, hI⟩ hr hK
  have hh : iHo ν R := iHo_c (fun k _ _ => f k (by omega)) h
  refine ⟨⟨by omega, by omega⟩, fun c => hq ν f (fun u du hu => hI u du (by omega)), fun c => ?_⟩
  have skip : ¬ ((w.toNat : Int) < R 3 ∧ R (7 + w.toNat) = n) → K (w + 1) ν := by
    intro q
    refine hK _ (by omega) ⟨f, fun u du hu => hI u du ?_⟩
    by_cases e : u = w.toNat
    · subst e
      rcases hu with hu | hu
      · exact Or.inl hu
      · exact absurd ⟨du, hu.1⟩ q
    · omega
  refine h_len hh (fun hw _ _ => ⟨fun d => ?_, fun d => skip (fun z => d z.2)⟩) (fun hw _ _ => ⟨fun d => by omega, fun d => skip (fun z => hw ⟨w0, by omega⟩)⟩)
  have hw2 := hw.2
  have dl : (downsF R w.toNat).length ≤ 25 := downsF_len
  have lw := hl.2.2 w.toNat (by omega)
  have u0 : dnL R w.toNat (dnTo 25 0 w.toNat) = downsF R w.toNat := by unfold dnTo; rw [if_neg (by omega)]; rfl
  rw [u0] at lw
  have e204 : ν 204 w.toNat = (downsF R w.toNat).length := by rw [f 204 (by omega)]; exact lw.1
  refine rd2b (n := ((downsF R w.toNat).length : Int)) (fun i a => a = mnL (ν 207) n ((downsF R w.toNat).take i.toNat)) (by omega) rfl ?_
  rintro i a K2 i0 i1 rfl hK2
  have an := mnL_in (fun v => hr.i (k := 207) (j := v) (by omega)) ((downsF R w.toNat).take i.toNat) n ⟨by omega, by omega⟩
  rw [e204]
  refine ⟨⟨w0, by omega⟩, ⟨by omega, by omega⟩, fun c => ⟨⟨w0, by omega⟩, an, wl fun _ => hK _ (by omega) ⟨fun k q => ?_, ?_⟩⟩, fun c => ⟨⟨i0, by omega⟩, ?_⟩⟩
  · rw [← f k q]; funext j; rw [wi_cell q]
  · rw [List.take_of_length_le (by omega)]
    have pu := dnI_put (a' := wi ν 207 w.toNat (mnL (ν 207) n (downsF R w.toNat)) 207) (n := n) (w := w.toNat) hI (fun u _ q => by omega) (fun _ => d) (fun u q => wi_place q) (fun _ => wi_self _ _ _ _)
    refine fun u du hu => pu u du ?_
    by_cases e : u = w.toNat
    · exact Or.inr e
    · left; omega
  · have hi : i.toNat < (downsF R w.toNat).length := by omega
    have r := lw.2 i.toNat hi
    have e180 : ν (180 + w.toNat) i.toNat = ((downsF R w.toNat)[i.toNat] : Nat) := by rw [f (180 + w.toNat) (by omega)]; exact r
    have m := List.getElem_mem hi
    have lv := (downsF_mem.1 m).1
    have st : mnL (ν 207) n ((downsF R w.toNat).take (i + 1).toNat) = if (downsF R w.toNat)[i.toNat] = 24 then mnL (ν 207) n ((downsF R w.toNat).take i.toNat) else min (mnL (ν 207) n ((downsF R w.toNat).take i.toNat)) (ν 207 (downsF R w.toNat)[i.toNat]) := by
      rw [show (i + 1).toNat = i.toNat + 1 by omega, ← List.take_append_getElem hi, mnL_snoc]
    rw [e180]
    refine ⟨fun e => hK2 _ (by omega) ?_, fun e => s_riseOf (by omega) (by omega) (fun _ _ => ⟨an, hK2 _ (by omega) ?_⟩)⟩
    · rw [st, if_pos (by omega)]
    · rw [st, if_neg (by omega), Int.toNat_natCast]
def cGrow (μ : xM) (R : Nat → Int) : Prop := (∀ w v : Nat, w < 25 → v < 24 → (w = 24 ∨ (w : Int) < R 3) → (v : Int) < R 3 → μ (75 + w) v = wvF R w v) ∧ lnk μ R 25 0 ∧ isChain R (μ 205) ∧ isNim R (μ 206) ∧ isRise R (μ 207)
def in101 (k : Nat) : Prop := 101 ≤ k ∧ k < 208
theorem s_settle {μ : xM} {R : Nat → Int} {Q : xM → Prop} (h : iHo μ R) (hw : ∀ w v : Nat, w < 25 → v < 24 → (w = 24 ∨ (w : Int) < R 3) → (v : Int) < R 3 → μ (75 + w) v = wvF R w v)
    (hq : ∀ ν, (∀ k, ¬ in101 k → ν k = μ k) → cGrow ν R → Q ν) : tX1_settle μ Q := by
  have hR := h.1
  have bW := hR.W
  intro _
  refine s_fill (by omega) (fun _ => s_fill (by omega) (fun _ => ?_))
  refine up1 (n := 25) (fun w ν => (∀ k, ¬ in101 k → ν k = μ k) ∧ lnk ν R w.toNat 0) (by omega) ⟨fun k hk => ?_, fun w v _ _ z => by omega, fun w hw => ?_, fun v hv => ?_⟩ ?_
  · unfold in101 at hk
    funext j
    simp only [fillM]
    rw [if_neg (by omega), if_neg (by omega)]
  · have e : upL R w (upTo (0 : Int).toNat 0 w) = [] := by
      have : upTo (0 : Int).toNat 0 w = 0 := by unfold upTo; split <;> (try split) <;> first | rfl | (rename_i q; exact absurd q (by simp))
      rw [this]; rfl
    rw [e]
    refine ⟨by simp [fillM, hw], fun i hi => absurd hi (by simp), fun i hi => absurd hi (by simp)⟩
  · have e : dnL R v (dnTo (0 : Int).toNat 0 v) = [] := by
      have : dnTo (0 : Int).toNat 0 v = 0 := by unfold dnTo; rw [if_neg (by omega)]; rfl
      rw [this]; rfl
    rw [e]
    refine ⟨by simp [fillM, hv], fun i hi => absurd hi (by simp)⟩
  rintro w ν K w0 w1 ⟨f, hl⟩ _ hK
  refine ⟨⟨by omega, by omega⟩, fun c => ?_, fun c => ?_⟩
  · rw [show w.toNat = 25 by omega] at hl
    refine dn1 (n := -1) (fun n ω => (∀ k, ¬ in101 k → ω k = μ k) ∧ lnk ω R 25 0 ∧ upI (ω 205) (ω 206) R (fun u => n < lnF R u)) (by omega) ⟨f, hl, fun u du hu => by have := lnF_rng hR du; omega⟩ ?_
    rintro n ω K2 n0 n1 ⟨f2, hl2, hu2⟩ _ hK2
    refine ⟨⟨by omega, by omega⟩, fun d => ?_, fun d => ?_⟩
    · refine up1 (n := 7) (fun n ξ => (∀ k, ¬ in101 k → ξ k = μ k) ∧ lnk ξ R 25 0 ∧ ξ 205 = ω 205 ∧ ξ 206 = ω 206 ∧ dnI (ξ 207) R (fun u => R (7 + u) < n)) (by omega) ⟨f2, hl2, rfl, rfl, fun u du hu => by have := hR.len du; omega⟩ ?_
      rintro m ξ K3 m0 m1 ⟨f3, hl3, e5, e6, hd⟩ _ hK3
      refine ⟨⟨by omega, by omega⟩, fun e => hq ξ f3 ⟨fun w v a b c d => ?_, hl3, ?_, ?_, ?_⟩, fun e => s_lookDown (iHo_c (fun k _ _ => f3 k (by unfold in101; omega)) h) hl3 m0 (by omega) hd (fun ζ g1 g2 _ => hK3 _ (by omega) ⟨fun k hk => ?_, ?_, ?_, ?_, fun u du hu => g2 u du (by omega)⟩)⟩
      · rw [f3 (75 + w) (by unfold in101; omega)]; exact hw w v a b c d
      · rw [e5]
        exact fun w hw => (hu2 w (Or.inl hw) (by have := lnF_rng hR (Or.inl hw); omega)).1
      · rw [e6]
        intro w hw
        have r := lnF_rng hR (show domF R w from hw)
        have q := hu2 w hw (by omega)
        exact ⟨q.2.1, q.2.2.2.2.1, by have := q.2.2.2.2.2; omega⟩
      · exact fun v hv => hd v hv (by have := hR.len hv; omega)
      · rw [g1 k (by unfold in101 at hk; omega)]; exact f3 k hk
      · obtain ⟨x1, x2, x3⟩ := hl3
        refine ⟨fun w v a b c => ?_, fun w hw => ?_, fun v hv => ?_⟩
        · rw [g1 _ (by omega)]; exact x1 w v a b c
        · rw [g1 _ (by omega), g1 (127 + w) (by omega), g1 (153 + w) (by omega)]; exact x2 w hw
        · rw [g1 _ (by omega), g1 (180 + v) (by omega)]; exact x3 v hv
      · rw [g1 _ (by omega)]; exact e5
      · rw [g1 _ (by omega)]; exact e6
    · refine s_lookUp (iHo_c (fun k _ _ => f2 k (by unfold in101; omega)) h) hl2 (by omega) (by omega) hu2 (fun ζ g1 g2 _ => hK2 _ (by omega) ⟨fun k hk => ?_, ?_, fun u du hu => g2 u du (by omega)⟩)
      · rw [g1 k (by unfold in101 at hk; omega) (by unfold in101 at hk; omega)]; exact f2 k hk
      · obtain ⟨x1, x2, x3⟩ := hl2
        refine ⟨fun w v a b c => ?_, fun w hw => ?_, fun v hv => ?_⟩
        · rw [g1 _ (by omega) (by omega)]; exact x1 w v a b c
        · rw [g1 _ (by omega) (by omega), g1 (127 + w) (by omega) (by omega), g1 (153 + w) (by omega) (by omega)]; exact x2 w hw
        · rw [g1 _ (by omega) (by omega), g1 (180 + v) (by omega) (by omega)]; exact x3 v hv
  · refine up1 (n := 24) (fun v ω => (∀ k, ¬ in101 k → ω k = μ k) ∧ lnk ω R w.toNat v.toNat) (by omega) ⟨f, hl⟩ ?_
    rintro v ω K2 v0 v1 ⟨f2, hl2⟩ hr2 hK2
    have hh : iHo ω R := iHo_c (fun k _ _ => f2 k (by unfold in101; omega)) h
    have nv : (v + 1).toNat = v.toNat + 1 := by omega
    have b89 : v < 24 → ∀ x, xIn x → x = byF R w.toNat v.toNat → tX1_settle_b89 w v (101 + w.toNat) v x ω Q K K2 := by
      intro lt x hx ex _
      refine ⟨⟨v0, lt⟩, hx, wl fun _ => ⟨⟨w0, by omega⟩, ⟨v0, lt⟩, ?_⟩⟩
      rw [wi_self]
      refine ⟨fun d => hK2 _ lt ⟨fun k hk => ?_, ?_⟩, fun d => ⟨⟨by omega, by omega⟩, ⟨by omega, by omega⟩, ?_⟩⟩
      · rw [← f2 k hk]; funext j; exact wi_cell (by unfold in101 at hk; omega)
      · rw [nv]; exact lnk_no (by omega) (by omega) hl2 (by omega) x ex
      · have sl := s_link (Q := fun μ51 => xRan μ51 → K2 (v + 1) μ51) (w := w.toNat) (v := v.toNat) (by omega) (by omega) hl2 (by omega) (Or.inr trivial) (wi ω (101 + w.toNat) v.toNat x) (by rw [ex]) (fun ζ g1 g2 _ => hK2 _ lt ⟨fun k hk => ?_, by rw [nv]; exact g2⟩)
        · rw [Int.toNat_of_nonneg w0, Int.toNat_of_nonneg v0] at sl
          exact sl
        · rw [g1 k (by unfold in101 at hk; unfold inG; omega)]; exact f2 k hk
    have bno : v < 24 → byF R w.toNat v.toNat = -1 → tX1_settle_b64 w v ω Q K K2 := by
      intro lt eb _ _
      exact ⟨⟨w0, by omega⟩, ⟨by decide, by decide⟩, fun _ => b89 lt (-1) ⟨by decide, by decide⟩ eb.symm, fun z => absurd rfl z⟩
    have b49 : v < 24 → (w.toNat = 24 ∨ goodF R w.toNat) → tX1_settle_b49 w v ω Q K K2 := by
      intro lt gw _
      refine ⟨⟨by omega, by omega⟩, h_good hh (fun g _ _ => ⟨fun z => absurd z (by decide), fun _ _ => ⟨⟨w0, by omega⟩, ⟨by decide, by decide⟩, fun z => absurd z (by decide), fun _ => ⟨⟨v0, lt⟩, b89 lt _ (hr2.i (by omega)) ?_⟩⟩⟩) (fun g _ _ => ⟨fun _ => bno lt (byF_no (fun z => g ((goodI_nat v0).2 z.2))), fun z => absurd z (by decide)⟩)⟩
      have gv := (goodI_nat v0).1 g
      rw [byF_yes gw gv, f2 (75 + w.toNat) (by unfold in101; omega)]
      refine hw w.toNat v.toNat (by omega) (by omega) ?_ gv.1
      rcases gw with q | q
      · exact Or.inl q
      · exact Or.inr q.1
    refine ⟨⟨by omega, by omega⟩, fun d => hK _ (by omega) ⟨f2, ?_⟩, fun d => ⟨⟨by omega, by omega⟩, fun e => b49 (by omega) (Or.inl (by omega)), fun e => h_good hh (fun g _ _ => ⟨fun z => absurd z (by decide), fun _ => b49 (by omega) (Or.inr ((goodI_nat w0).1 g))⟩) (fun g _ _ => ⟨fun _ => bno (by omega) (byF_no (fun z => ?_)), fun z => absurd z (by decide)⟩)⟩⟩
    · rw [show v.toNat = 24 by omega] at hl2
      rw [show (w + 1).toNat = w.toNat + 1 by omega]
      exact lnk_row hl2
    · rcases z.1 with q | q
      · omega
      · exact g ((goodI_nat w0).2 q)
