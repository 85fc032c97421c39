/-! stairs: looking at a code -/
def okX (R : Nat → Int) (n : Nat) (f : Nat → Nat) : Prop := (∀ j, j < 3 → domF R (f j)) ∧ (∀ j : Nat, j < 3 → R 0 ≤ (j : Int) → f j = 24) ∧ thereF R (f 0) (f 1) (f 2) n
theorem okX_c {R : Nat → Int} {n : Nat} {f g : Nat → Nat} (e : ∀ j, j < 3 → f j = g j) (h : okX R n f) : okX R n g := by
  unfold okX at *
  rw [← e 0 (by omega), ← e 1 (by omega), ← e 2 (by omega)]
  exact ⟨fun j hj => by rw [← e j hj]; exact h.1 j hj, fun j hj => by rw [← e j hj]; exact h.2.1 j hj, h.2.2⟩
theorem lenC_set {R : Nat → Int} {f : Nat → Nat} {t v : Nat} (ht : t < 3) : lenC R (sT f t v) = lenC R f - lnF R (f t) + lnF R v := by
  unfold lenC
  rcases (show t = 0 ∨ t = 1 ∨ t = 2 by omega) with rfl | rfl | rfl <;> simp [sT] <;> omega
theorem cn3_set {R : Nat → Int} {f : Nat → Nat} {t v : Nat} (ht : t < 3) (c : Int) : cn3 R (sT f t v) c = cn3 R f c - cntW R (f t) c + cntW R v c := by
  unfold cn3
  rcases (show t = 0 ∨ t = 1 ∨ t = 2 by omega) with rfl | rfl | rfl <;> simp [sT] <;> omega
theorem by_ln {R : Nat → Int} (hR : okR R) {w v : Nat} (h : 0 ≤ byF R w v) : lnF R v = lnF R w + 1 := by
  have bW := hR.W
  have g := byF_ge h
  have := g.1.1
  unfold lnF
  rcases g.2 with z | z
  · rw [if_pos z.1, if_neg (by omega), z.2]; omega
  · rw [if_neg z.1, if_neg (by omega)]; exact z.2.2
theorem there_cn {R : Nat → Int} {f : Nat → Nat} {n : Nat} : thereF R (f 0) (f 1) (f 2) n ↔ ∀ c : Int, 0 ≤ c → c < 26 → cn3 R f c ≤ cntG R n c := Iff.rfl
theorem okX_up {R : Nat → Int} (hR : okR R) {n : Nat} {up : Int} {f : Nat → Nat} {t v : Nat} (h : okX R n f) (tT : (t : Int) < R 0) (hs : stTV R 1 n up f t v) : okX R n (sT f t v) := by
  have bT := hR.T
  refine ⟨sT_dom h.1 (stTV_dom hs), fun j hj z => ?_, ?_⟩
  · unfold sT; rw [if_neg (by omega)]; exact h.2.1 j hj z
  · rcases hs.1 with z | z
    · exact z.2
    · intro c c0 c1
      have q := cn3_set (R := R) (f := f) (v := v) (show t < 3 by omega) c
      have g := cntW_grow hR rfl z.2 c
      have o := h.2.2 c c0 c1
      have o2 : cn3 R f c ≤ cntG R n c := o
      show cn3 R (sT f t v) c ≤ cntG R n c
      rw [q, g]
      split <;> omega
def CB (R : Nat → Int) (n : Nat) (up : Int) (D : Nat → Nat → Int) (ν : xM) : Prop := iOpW ν ∧ ν 263 = R ∧ ν 236 11 = n ∧ ν 236 12 = up ∧ (∀ c : Nat, c < 26 → ν 237 c = cntG R n c) ∧ (∀ t w : Nat, t < 3 → ν (239 + t) w = D t w)
def gS (μ ν : xM) : Prop := (∀ k, k ≠ 236 → k ≠ 237 → ¬ (243 ≤ k ∧ k ≤ 246) → ν k = μ k) ∧ (∀ j, j ≠ 9 → j ≠ 10 → ν 236 j = μ 236 j)
theorem gS.tt {μ ν ω : xM} (h : gS μ ν) (h2 : gS ν ω) : gS μ ω := ⟨fun k a b c => (h2.1 k a b c).trans (h.1 k a b c), fun j a b => (h2.2 j a b).trans (h.2 j a b)⟩
theorem ptS.g {μ ν : xM} (h : ptS μ ν) : gS μ ν := ⟨fun k a _ c => h.1 k a c, h.2⟩
theorem CB.pt {R : Nat → Int} {n : Nat} {up : Int} {D : Nat → Nat → Int} {ν ω : xM} (h : CB R n up D ν) (p : ptS ν ω) : CB R n up D ω := by
  obtain ⟨a, b, c, d, e, f⟩ := h
  refine ⟨iOpW_c (by rw [p.1 260 (by omega) (by omega)]) (fun k hk => p.1 k (by omega) (by omega)) a, by rw [p.1 263 (by omega) (by omega)]; exact b, by rw [p.2 11 (by omega) (by omega)]; exact c, by rw [p.2 12 (by omega) (by omega)]; exact d, fun x hx => by rw [p.1 237 (by omega) (by omega)]; exact e x hx, fun t w ht => by rw [p.1 (239 + t) (by omega) (by omega)]; exact f t w ht⟩
theorem Sch_c {P now lat : List Nat} {ν ω : xM} (h : Sch P now lat ν) (e : ∀ k, k ≠ 237 → ω k = ν k) : Sch P now lat ω := by
  have ek : (ν 236 5).toNat = 243 ∨ (ν 236 5).toNat = 244 := by rcases h.1 with z | z <;> omega
  have ekl : (ν 236 6).toNat = 243 ∨ (ν 236 6).toNat = 244 := by rcases h.1 with z | z <;> omega
  unfold Sch at *
  rw [e 236 (by omega), e 245 (by omega), e 246 (by omega), e (ν 236 5).toNat (by omega), e (ν 236 6).toNat (by omega)]
  exact h
theorem s_isStanding {μ : xM} {x : Nat} {Q : Int → xM → Prop} (hx : x < 26) (h1 : 0 < μ 237 x → Q 1 μ) (h0 : ¬ 0 < μ 237 x → Q 0 μ) : tX7_isStanding x μ Q := by
  intro _ _
  rw [Int.toNat_natCast]
  exact ⟨fun z => by omega, fun _ => ⟨fun z => by omega, fun _ => ⟨⟨by omega, by omega⟩, fun z => h0 (by omega), fun z => h1 (by omega)⟩⟩⟩
theorem s_goOn {ν : xM} {R : Nat → Int} {n : Nat} {up : Int} {D : Nat → Nat → Int} {P now lat : List Nat} {f : Nat → Nat} {Q : xM → Prop} (hc : CB R n up D ν) (hn : (n : Int) ≤ R 4) (hs : Sch P now lat ν) (hf : okX R n f)
    (hq : ∀ (ω : xM) (now' lat' : List Nat), CB R n up D ω → gS ν ω → Sch P now' lat' ω → (∀ x ∈ now, x ∈ now') → (∀ x ∈ now', x ∈ now ∨ fwd R n up D f x) → (∀ x ∈ lat, x ∈ lat') → (∀ x ∈ lat', x ∈ lat ∨ bck R n up D f x) → (∀ x, inB (ν 246) x → inB (ω 246) x) → (∀ x, fwd R n up D f x → x ∈ P ∨ x ∈ now') → (∀ x, bck R n up D f x → (x ∈ P ∨ x ∈ now') ∨ inB (ω 246) x) → Q ω) : tX7_goOn (cdX f) ν Q := by
  obtain ⟨h1, h2, h3, h4, h5, h6⟩ := hc
  have hR : okR R := by rw [← h2]; exact h1.2.1
  have bT := hR.T
  have bN := hR.N
  have bW := hR.W
  have dl : ∀ j, j < 3 → f j ≤ 24 := fun j hj => domF_le hR (hf.1 j hj)
  have cg : ∀ c : Int, 0 ≤ cntG R n c ∧ cntG R n c ≤ n := fun c => cntG_rng _ _ _
  have c3 : ∀ c : Int, 0 ≤ cn3 R f c ∧ cn3 R f c ≤ 18 := fun c => by
    have a := cntW_rng hR (hf.1 0 (by omega)) c; have b := cntW_rng hR (hf.1 1 (by omega)) c; have d := cntW_rng hR (hf.1 2 (by omega)) c
    unfold cn3; omega
  have lb : 0 ≤ lenC R f ∧ lenC R f ≤ 18 := by
    have a := lnF_rng hR (hf.1 0 (by omega)); have b := lnF_rng hR (hf.1 1 (by omega)); have c := lnF_rng hR (hf.1 2 (by omega))
    unfold lenC; omega
  intro _ _
  refine s_standingAt h1 (by rw [h2]; exact hf.1) (by omega) (fun _ _ => ?_)
  rw [h2, h3]
  refine s_shift h1 (by rw [h2]; exact hf.1) (Or.inr rfl) (fun c hc => by rw [h5 c hc]; have := cg c; omega) (fun ν1 w1 w2 _ => ?_)
  rw [h2] at w2
  have v237 : ∀ c : Nat, c < 26 → ν1 237 c = cntG R n c - cn3 R f c := fun c hc => by rw [w2 c hc, h5 c hc]; omega
  have hs1 : Sch P now lat ν1 := Sch_c hs w1
  have hD1 : ∀ t w : Nat, t < 3 → ν1 (239 + t) w = D t w := fun t w ht => by rw [w1 (239 + t) (by omega)]; exact h6 t w ht
  have keep : ∀ {ξ : xM} {d : Nat → Nat → Prop}, GG R n up D P now lat ν1 f d ξ → iOpW ξ ∧ ξ 263 = R ∧ ξ 236 11 = n ∧ ξ 236 12 = up ∧ (∀ c : Nat, c < 26 → ξ 237 c = cntG R n c - cn3 R f c) := by
    rintro ξ d ⟨_, _, _, p, _⟩
    refine ⟨iOpW_c (by rw [p.1 260 (by omega) (by omega), w1 260 (by omega)]) (fun k hk => by rw [p.1 k (by omega) (by omega), w1 k (by omega)]) h1, ?_, ?_, ?_, fun c hc => ?_⟩
    · rw [p.1 263 (by omega) (by omega), w1 263 (by omega)]; exact h2
    · rw [p.2 11 (by omega) (by omega), w1 236 (by omega)]; exact h3
    · rw [p.2 12 (by omega) (by omega), w1 236 (by omega)]; exact h4
    · rw [p.1 237 (by omega) (by omega)]; exact v237 c hc
  refine up1 (n := R 0) (fun t ξ => GG R n up D P now lat ν1 f (fun t' _ => (t' : Int) < t) ξ) (by omega) ⟨now, lat, hs1, ptS.rf _, fun _ h => h, fun _ h => Or.inl h, fun _ h => h, fun _ h => Or.inl h, fun _ h => h, fun t v _ _ z => by omega⟩ ?_
  rintro t ξ K t0 t1 g _ hK
  obtain ⟨t, rfl⟩ : ∃ m : Nat, t = m := ⟨t.toNat, by omega⟩
  obtain ⟨o1, o2, o3, o4, o5⟩ := keep g
  have e0 : ξ 39 0 = R 0 := by rw [o1.2.2.1.1 0 (by omega), o2]
  rw [e0]
  refine ⟨⟨by omega, by omega⟩, fun d => ?_, fun d => ?_⟩
  · refine s_shift o1 (by rw [o2]; exact hf.1) (Or.inl rfl) (fun c hc => by rw [o5 c hc]; have := cg c; have := c3 c; omega) (fun ω v1 v2 _ => ?_)
    rw [o2] at v2
    obtain ⟨now', lat', c1, c2, c3', c4, c5, c6, c7, c8⟩ := g
    have fr : ∀ k, k ≠ 236 → k ≠ 237 → ¬ (243 ≤ k ∧ k ≤ 246) → ω k = ν k := fun k a b c => by rw [v1 k b, c2.1 k a c, w1 k b]
    refine hq ω now' lat' ⟨iOpW_c (by rw [fr 260 (by omega) (by omega) (by omega)]) (fun k hk => fr k (by omega) (by omega) (by omega)) h1, by rw [fr 263 (by omega) (by omega) (by omega)]; exact h2, ?_, ?_, fun c hc => ?_, fun t w ht => ?_⟩ ⟨fr, fun j a b => ?_⟩ (Sch_c c1 v1) c3' c4 c5 c6 (fun x hx => ?_) (fun x hx => ?_) (fun x hx => ?_)
    · rw [v1 236 (by omega)]; exact o3
    · rw [v1 236 (by omega)]; exact o4
    · rw [v2 c hc, o5 c hc]; omega
    · rw [fr (239 + t) (by omega) (by omega) (by omega)]; exact h6 t w ht
    · rw [v1 236 (by omega), c2.2 j a b, w1 236 (by omega)]
    · rw [v1 246 (by omega)]
      refine c7 x ?_
      rw [w1 246 (by omega)]; exact hx
    · obtain ⟨t', v', a1, a2, a3, a4, a5⟩ := hx
      rw [a5]
      exact (c8 t' v' a1 a2 (by omega) a3).1 a4
    · obtain ⟨t', v', a1, a2, a3, a4, a5⟩ := hx
      rw [a5, v1 246 (by omega)]
      exact (c8 t' v' a1 a2 (by omega) a3).2 a4
  have tl : t < 3 := by omega
  have ft := dl t tl
  have dom := hf.1 t tl
  refine s_kindAt dl tl (fun _ _ => ?_)
  have grow : ∀ v : Nat, 0 ≤ byF R (f t) v → lenC R (sT f t v) = lenC R f + 1 := fun v hb => by rw [lenC_set tl, by_ln hR hb]; omega
  have fall : ∀ v : Nat, 0 ≤ byF R v (f t) → lenC R (sT f t v) = lenC R f - 1 := fun v hb => by rw [lenC_set tl, by_ln hR hb]; omega
  have nof : ∀ v : Nat, 0 ≤ byF R (f t) v → ¬ 0 ≤ byF R v (f t) := fun v a b => by
    have := by_ln hR a; have := by_ln hR b; omega
  have thr : ∀ v : Nat, ∀ x : Nat, byF R (f t) v = x → (thereF R (sT f t v 0) (sT f t v 1) (sT f t v 2) n ↔ 0 < cntG R n x - cn3 R f x) := by
    intro v x hb
    have hb0 : 0 ≤ byF R (f t) v := by omega
    have x25 := (byF_rng hR (f t) v).2
    have q : ∀ c : Int, cn3 R (sT f t v) c = cn3 R f c + (if (x : Int) = c then 1 else 0) := fun c => by rw [cn3_set tl, cntW_grow hR hb (by omega) c]; omega
    constructor
    · intro z
      have : cn3 R (sT f t v) x ≤ cntG R n x := z x (by omega) (by omega)
      rw [q, if_pos rfl] at this; omega
    · intro z c c0 c1
      show cn3 R (sT f t v) c ≤ cntG R n c
      have o : cn3 R f c ≤ cntG R n c := hf.2.2 c c0 c1
      rw [q]
      by_cases e : (x : Int) = c
      · rw [if_pos e, ← e]; omega
      · rw [if_neg e]; omega
  -- those below
  have b102 : ∀ ξ : xM, GG R n up D P now lat ν1 f (fun t' v' => t' < t ∨ (t' = t ∧ v' ∈ upsF R (f t))) ξ → tX7_goOn_b102 (cdX f) ((n : Int) - lenC R f) t (f t) ξ Q K := by
    intro ξ g _
    obtain ⟨o1, o2, o3, o4, o5⟩ := keep g
    rw [o4]
    have nxt : ∀ ω : xM, GG R n up D P now lat ν1 f (fun t' v' => t' < t ∨ (t' = t ∧ (v' ∈ upsF R (f t) ∨ v' ∈ downsF R (f t)))) ω → K (t + 1) ω := by
      intro ω g2
      refine hK ω (by omega) (g2.dn (fun t' v' a b z s => ?_))
      by_cases q : t' < t
      · exact Or.inl q
      · have qe : t' = t := by omega
        subst qe
        refine Or.inr ⟨rfl, ?_⟩
        rcases s.1 with u | u
        · left
          have := byF_word u.1
          exact upsF_mem.2 ⟨by omega, u.1⟩
        · right; exact downsF_mem.2 ⟨by omega, u.2⟩
    refine ⟨⟨by omega, by omega⟩, fun z => nxt ξ (g.dn (fun t' v' a b y s => ?_)), fun z => ?_⟩
    · rcases y with y | ⟨rfl, y | y⟩
      · exact Or.inl y
      · exact Or.inr ⟨rfl, y⟩
      · exfalso
        have hb := (downsF_mem.1 y).2
        have := fall v' hb
        have := s.2
        omega
    · by_cases w24 : f t = 24
      · refine rd1 (n := 0) (fun i => i = 0) (by omega) rfl ?_
        rintro i K2 i0 i1 rfl _
        rw [w24]
        refine ⟨⟨by omega, by omega⟩, s_downsE (fun _ _ => ⟨⟨by omega, by omega⟩, fun _ => nxt ξ (g.dn (fun t' v' a b y s => ?_)), fun y => absurd (by decide) y⟩)⟩
        rcases y with y | ⟨rfl, y | y⟩
        · exact Or.inl y
        · exact Or.inr ⟨rfl, y⟩
        · exfalso
          have := (byF_ge (downsF_mem.1 y).2).1.1
          omega
      · have dlen := downsF_len (R := R) (v := f t)
        refine up1 (n := ((downsF R (f t)).length : Int)) (fun i ω => GG R n up D P now lat ν1 f (fun t' v' => t' < t ∨ (t' = t ∧ (v' ∈ upsF R (f t) ∨ v' ∈ (downsF R (f t)).take i.toNat))) ω) (by omega) (g.dn (fun t' v' a b y s => ?_)) ?_
        · rcases y with y | ⟨rfl, y | y⟩
          · exact Or.inl y
          · exact Or.inr ⟨rfl, y⟩
          · simp at y
        · rintro i ω K2 i0 i1 g2 _ hK2
          obtain ⟨i, rfl⟩ : ∃ m : Nat, i = m := ⟨i.toNat, by omega⟩
          rw [Int.toNat_natCast] at g2
          obtain ⟨q1, q2, q3, q4, q5⟩ := keep g2
          refine ⟨⟨by omega, by omega⟩, s_downs (by omega) (by omega) (fun _ _ => ?_)⟩
          rw [Int.toNat_natCast, (q1.2.2.2.2.2.2.2.1 (f t) (by omega)).1, q2]
          refine ⟨⟨by omega, by omega⟩, fun y => nxt ω ?_, fun y => ?_⟩
          · rw [List.take_of_length_le (by omega)] at g2; exact g2
          · have hi : i < (downsF R (f t)).length := by omega
            have dv := (q1.2.2.2.2.2.2.2.1 (f t) (by omega)).2 i (by rw [q2]; exact hi)
            simp only [q2] at dv
            obtain ⟨v, ev⟩ : ∃ v, v = (downsF R (f t))[i] := ⟨_, rfl⟩
            rw [← ev] at dv
            have vm : v ∈ downsF R (f t) := by rw [ev]; exact List.getElem_mem hi
            have vb := (downsF_mem.1 vm)
            refine s_downOf (by omega) (by omega) (by omega) (by omega) (fun _ _ => ⟨⟨by omega, by omega⟩, ?_⟩)
            rw [Int.toNat_natCast, Int.toNat_natCast, dv]
            refine s_step dl tl (by omega) (by omega) ⟨Or.inr ⟨rfl, vb.2⟩, by have := fall v vb.2; omega⟩ hD1 g2 (fun ω2 g3 _ => hK2 ω2 (by omega) (g3.dn (fun t' v' a b y s => ?_)))
            rw [show ((i : Int) + 1).toNat = i + 1 by omega] at y
            have et : (downsF R (f t)).take (i + 1) = (downsF R (f t)).take i ++ [v] := by rw [ev]; exact (List.take_append_getElem hi).symm
            rw [et] at y
            rcases y with y | ⟨rfl, y | y⟩
            · exact Or.inl (Or.inl y)
            · exact Or.inl (Or.inr ⟨rfl, Or.inl y⟩)
            · rcases List.mem_append.1 y with y | y
              · exact Or.inl (Or.inr ⟨rfl, Or.inr y⟩)
              · exact Or.inr ⟨rfl, List.mem_singleton.1 y⟩
  rw [o4]
  refine ⟨⟨by omega, by omega⟩, fun z => b102 ξ (g.dn (fun t' v' a b y s => ?_)), fun z => ?_⟩
  · rcases y with y | ⟨rfl, y⟩
    · show (t' : Int) < t; omega
    · exfalso
      have hb := (upsF_mem.1 y).2
      have := grow v' hb
      have := s.2
      omega
  · have ulen := upsF_len (R := R) (w := f t)
    refine up1 (n := ((upsF R (f t)).length : Int)) (fun i ω => GG R n up D P now lat ν1 f (fun t' v' => t' < t ∨ (t' = t ∧ v' ∈ (upsF R (f t)).take i.toNat)) ω) (by omega) (g.dn (fun t' v' a b y s => ?_)) ?_
    · rcases y with y | ⟨rfl, y⟩
      · show (t' : Int) < t; omega
      · simp at y
    · rintro i ω K2 i0 i1 g2 _ hK2
      obtain ⟨i, rfl⟩ : ∃ m : Nat, i = m := ⟨i.toNat, by omega⟩
      rw [Int.toNat_natCast] at g2
      obtain ⟨q1, q2, q3, q4, q5⟩ := keep g2
      refine s_ups (by omega) (by omega) (fun _ _ => ?_)
      rw [Int.toNat_natCast, (q1.2.2.2.2.2.2.1 (f t) (by omega)).1, q2]
      refine ⟨⟨by omega, by omega⟩, fun y => b102 ω ?_, fun y => ?_⟩
      · rw [List.take_of_length_le (by omega)] at g2; exact g2
      · have hi : i < (upsF R (f t)).length := by omega
        have uv := q1.up (w := f t) (by omega) (show i < (upsF (ω 263) (f t)).length by rw [q2]; exact hi)
        simp only [q2] at uv
        obtain ⟨v, ev⟩ : ∃ v, v = (upsF R (f t))[i] := ⟨_, rfl⟩
        rw [← ev] at uv
        obtain ⟨x, hx⟩ : ∃ x : Nat, byF R (f t) v = x := ⟨(byF R (f t) v).toNat, by omega⟩
        have x25 := (byF_rng hR (f t) v).2
        have et : (upsF R (f t)).take (i + 1) = (upsF R (f t)).take i ++ [v] := by rw [ev]; exact (List.take_append_getElem hi).symm
        have ni : ((i : Int) + 1).toNat = i + 1 := by omega
        refine s_byOf (by omega) (by omega) (by omega) (by omega) (fun _ _ => ?_)
        rw [Int.toNat_natCast, Int.toNat_natCast, uv.2.1, hx]
        refine s_isStanding (by omega) (fun st _ _ => ⟨fun y => absurd y (by decide), fun _ => s_upOf (by omega) (by omega) (by omega) (by omega) (fun _ _ => ⟨⟨by omega, by omega⟩, ?_⟩)⟩) (fun st _ _ => ⟨fun _ => hK2 ω (by omega) (g2.dn (fun t' v' a b y s => ?_)), fun y => absurd y (by decide)⟩)
        · rw [Int.toNat_natCast, Int.toNat_natCast, uv.1]
          rw [q5 x (by omega)] at st
          refine s_step dl tl (by omega) (by omega) ⟨Or.inl ⟨by omega, by rw [Int.toNat_natCast]; exact (thr v x hx).2 st⟩, by have := grow v (by omega); omega⟩ hD1 g2 (fun ω2 g3 _ => hK2 ω2 (by omega) (g3.dn (fun t' v' a b y s => ?_)))
          rw [ni, et] at y
          rcases y with y | ⟨rfl, y⟩
          · exact Or.inl (Or.inl y)
          · rcases List.mem_append.1 y with y | y
            · exact Or.inl (Or.inr ⟨rfl, y⟩)
            · exact Or.inr ⟨rfl, List.mem_singleton.1 y⟩
        · rw [ni, et] at y
          rcases y with y | ⟨rfl, y⟩
          · exact Or.inl y
          · rcases List.mem_append.1 y with y | y
            · exact Or.inr ⟨rfl, y⟩
            · exfalso
              rw [List.mem_singleton.1 y] at s
              rw [q5 x (by omega)] at st
              rcases s.1 with u | u
              · have u2 := u.2
                rw [Int.toNat_natCast] at u2
                exact st ((thr v x hx).1 u2)
              · exact nof v (by omega) u.2
