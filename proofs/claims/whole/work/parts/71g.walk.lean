def wkS (μ ν : xM) : Prop := ∀ k, k ≠ 273 → k ≠ 277 → k ≠ 278 → ν k = μ k
def okC (R : Nat → Int) (x : Nat) : Prop := ∃ f : Nat → Nat, (∀ j, j < 3 → domF R (f j)) ∧ x = cdF f
theorem r_walk {μ : xM} {R : Nat → Int} {gu g up : Int} {f0 : Nat → Nat} {Q : Int → xM → Prop} (h : iOpW μ) (e : μ 263 = R) (hf0 : ∀ j, j < 3 → domF R (f0 j)) (g0 : 0 ≤ g) (g1 : g ≤ R 4) (hgu : gu = 0 ∨ gu = 1)
    (hq : ∀ (ω : xM) (l : List Nat), wkS μ ω → isDist (adjW R gu g up) 15625 (cdF f0) (ω 278) → rowL (ω 277) l → l.length ≤ 15625 → (∀ x ∈ l, okC R x) → (∀ x, x < 15625 → (x ∈ l ↔ 0 ≤ ω 278 x)) → (∀ x, x < 15625 → ω 278 x < 15625) → Q l.length ω) : tX11_walk (cdF f0) gu g up μ Q := by
  have hR : okR R := by rw [← e]; exact h.2.1
  have bW := hR.W
  have bT := hR.T
  have bN := hR.N
  have dl : ∀ {w : Nat}, domF R w → w ≤ 24 := fun hw => domF_le hR hw
  have lf0 := cdF_lt (fun j hj => dl (hf0 j hj))
  have lnb : ∀ f : Nat → Nat, (∀ j, j < 3 → domF R (f j)) → 0 ≤ lenC R f ∧ lenC R f ≤ 18 := fun f hf => by
    have a := lnF_rng hR (hf 0 (by omega)); have b := lnF_rng hR (hf 1 (by omega)); have c := lnF_rng hR (hf 2 (by omega))
    unfold lenC; omega
  intro _ _ _ _ xup
  refine up1 (n := 15625) (fun i ν => ν = fillM μ 278 i.toNat (-1)) (by omega) (fillM_zero μ 278 (-1)).symm ?_
  rintro i ν K i0 i1 rfl _ hK
  refine ⟨⟨by omega, by omega⟩, fun c => ?_, fun c => ⟨⟨i0, by omega⟩, wl fun _ => hK _ (by omega) (by rw [fillM_succ, show (i + 1).toNat = i.toNat + 1 by omega])⟩⟩
  rw [show i.toNat = 15625 by omega, Int.toNat_natCast]
  refine ⟨⟨by omega, by omega⟩, wl fun _ => wl fun _ => ?_⟩
  refine up2b (n := 15625) (fun q many ν => ∃ l : List Nat, many = l.length ∧ q ≤ l.length ∧ wkS μ ν ∧ rowL (ν 277) l ∧ bfs (adjW R gu g up) 15625 (cdF f0) (ν 278) l q.toNat ∧ ∀ x ∈ l, okC R x) (by omega) ⟨[cdF f0], rfl, by simp, fun k a b c => ?_, fun i hi => ?_, bfs_start lf0 ?_ (fun u hu hu2 => ?_), fun x hx => ?_⟩ ?_
  · funext j; rw [wi_cell b, wi_cell c]; unfold fillM; rw [if_neg (by omega)]
  · have : i = 0 := by simp at hi; omega
    subst this
    rw [wi_self]; rfl
  · rw [wi_cell (by omega), wi_self]
  · rw [wi_cell (by omega), wi_place hu2]; unfold fillM; rw [if_pos ⟨rfl, hu⟩]
  · rw [List.mem_singleton.1 hx]; exact ⟨f0, hf0, rfl⟩
  rintro q many ν K q0 q1 ⟨l, rfl, ql, w1, w2, w3, w4⟩ _ hKq
  obtain ⟨q, rfl⟩ : ∃ n : Nat, q = n := ⟨q.toNat, by omega⟩
  rw [Int.toNat_natCast] at w3 ⊢
  have ll := nodup_le _ l w3.1 w3.2.1
  refine ⟨⟨by omega, by omega⟩, ⟨by omega, by omega⟩, fun c => ?_, fun c => ⟨⟨by omega, by omega⟩, ?_⟩⟩
  · have en := bfs_end w3 (by omega)
    exact hq ν l w1 en.1 w2 ll w4 w3.2.2.1 en.2
  have hh : q < l.length := by omega
  have ew : ν 277 q = (l[q] : Nat) := w2 _ hh
  obtain ⟨f, hf, ex⟩ := w4 _ (List.getElem_mem hh)
  have lw := w3.2.1 _ (List.getElem_mem hh)
  rw [ew, ex]
  have fl : ∀ j, j < 3 → f j ≤ 24 := fun j hj => dl (hf j hj)
  have kk : ∀ j, j < 3 → k3 (f j : Int) := fun j hj => ⟨by omega, by have := fl j hj; omega⟩
  -- what is kept while the head is looked at
  obtain ⟨BB, hBB⟩ : ∃ BB : List Nat → Nat → Nat → xM → Prop, BB = fun l' t v ω => (∃ hx : q < l'.length, l'[q] = cdF f) ∧ wkS μ ω ∧ rowL (ω 277) l' ∧ bfs (adjW R gu g up) 15625 (cdF f0) (ω 278) l' q ∧ (∀ x ∈ l', okC R x) ∧ ∀ t' v' : Nat, (t' : Int) < R 0 → v' ≤ 24 → (t' < t ∨ (t' = t ∧ v' < v)) → stTV R gu g up f t' v' → 0 ≤ ω 278 (cdF (sT f t' v')) := ⟨_, rfl⟩
  refine up2b (n := R 0) (fun t many ω => ∃ l', many = l'.length ∧ BB l' t.toNat 0 ω) (by omega) ⟨l, rfl, by rw [hBB]; exact ⟨⟨hh, ex⟩, w1, w2, w3, w4, fun t' v' _ _ z => by omega⟩⟩ ?_
  rintro t many ω K1 t0 t1 ⟨l', rfl, b1⟩ _ hK1
  obtain ⟨t, rfl⟩ : ∃ n : Nat, t = n := ⟨t.toNat, by omega⟩
  rw [Int.toNat_natCast] at b1
  have b1' := b1
  rw [hBB] at b1'
  obtain ⟨⟨hx, ex'⟩, k1, k2, k3', k4, k5⟩ := b1'
  have e3 : ω 263 = R := (k1 263 (by omega) (by omega) (by omega)).trans e
  rw [e3]
  refine ⟨⟨by omega, by omega⟩, fun d => hKq _ _ (by omega) ⟨l', rfl, by omega, k1, k2, ?_, k4⟩, fun d => ?_⟩
  · rw [show ((q : Int) + 1).toNat = q + 1 by omega]
    refine bfs_next k3' hx (fun u hu a => ?_)
    obtain ⟨f', t', v', a1, a2, a3, a4, a5, a6⟩ := a
    have ef := cdF_inj fl (fun j hj => dl (a1 j hj)) (ex'.symm.trans a2)
    rw [a6, ← cdF_c (sT_c ef)]
    exact k5 t' v' a3 a4 (by omega) (stTV_c (by omega) (fun j hj => (ef j hj).symm) a5)
  have tl : t < 3 := by omega
  have epk : pk (f 0 : Int) (f 1) (f 2) (t : Int) = f t := pk_st (f := fun j => (f j : Int)) tl
  rw [← cdF_cd]
  refine r_wordOf (kk 0 (by omega)) (kk 1 (by omega)) (kk 2 (by omega)) (fun _ _ => ?_)
  rw [epk]
  refine up2b (n := 25) (fun v many ξ => ∃ l', many = l'.length ∧ BB l' t v.toNat ξ) (by omega) ⟨l', rfl, b1⟩ ?_
  rintro v many ξ K2 v0 v1 ⟨l2, rfl, b2⟩ _ hK2
  obtain ⟨v, rfl⟩ : ∃ n : Nat, v = n := ⟨v.toNat, by omega⟩
  rw [Int.toNat_natCast] at b2
  have b2' := b2
  rw [hBB] at b2'
  obtain ⟨⟨hx2, ex2⟩, m1, m2, m3, m4, m5⟩ := b2'
  have ll2 := nodup_le _ l2 m3.1 m3.2.1
  have x3 : ξ 263 = R := (m1 263 (by omega) (by omega) (by omega)).trans e
  have xo : iOpW ξ := iOpW_c (by rw [m1 260 (by omega) (by omega) (by omega)]) (fun k hk => m1 k (by omega) (by omega) (by omega)) h
  have x267 : ∀ w v : Nat, w < 25 → v < 24 → ξ 267 (24 * w + v) = byF R w v := fun w v hw hv => by rw [(xo.2.2.2.2.2.1 w v hw hv).1, x3]
  have nv : ((v : Int) + 1).toNat = v + 1 := by omega
  rw [x3]
  refine ⟨⟨by omega, by omega⟩, fun d2 => hK1 _ _ (by omega) ⟨l2, rfl, ?_⟩, fun d2 => ?_⟩
  · rw [show ((t : Int) + 1).toNat = t + 1 by omega, hBB]
    refine ⟨⟨hx2, ex2⟩, m1, m2, m3, m4, fun t' v' a b z => m5 t' v' a b (by omega)⟩
  have ft := fl t tl
  -- nothing new, in whatever memory that keeps it
  have skip : ∀ ξ' : xM, (∀ k, k ≠ 273 → ξ' k = ξ k) → (stTV R gu g up f t v → 0 ≤ ξ 278 (cdF (sT f t v))) → K2 (l2.length : Int) (v + 1) ξ' := by
    intro ξ' same z
    refine hK2 _ _ (by omega) ⟨l2, rfl, ?_⟩
    rw [nv, hBB]
    refine ⟨⟨hx2, ex2⟩, fun k a b c => (same k a).trans (m1 k a b c), by rw [same 277 (by omega)]; exact m2, by rw [same 278 (by omega)]; exact m3, m4, fun t' v' a b y s => ?_⟩
    rw [same 278 (by omega)]
    by_cases q : t' = t ∧ v' = v
    · obtain ⟨rfl, rfl⟩ := q; exact z s
    · exact m5 t' v' a b (by omega) s
  have b245 : ∀ ξ' : xM, (∀ k, k ≠ 273 → ξ' k = ξ k) → stTV R gu g up f t v → ¬ 0 ≤ ξ 278 (cdF (sT f t v)) → tX11_walk_b245 (cdF f0) gu g up l2.length q (cd (f 0) (f 1) (f 2)) t (f t) v (cdF (sT f t v)) ξ' Q K K1 K2 := by
    intro ξ' same s z _
    have dv := stTV_dom s
    have sd := sT_dom (t := t) hf dv
    have lt := cdF_lt (fun j hj => dl (sd j hj))
    have fq : q < l2.length := hx2
    have b11 := m3.2.2.2.2.2.2.2.2.2.2 q hx2
    have b4 := m3.2.2.2.1 l2[q] (m3.2.1 _ (List.getElem_mem hx2))
    have lt2 := cdF_lt fl
    rw [ex2] at b11 b4
    have nn : l2.length < 15625 := nodup_lt m3.1 m3.2.1 lt (fun y => z ((m3.2.2.1 _ lt).1 y))
    rw [cdF_cd, Int.toNat_natCast, Int.toNat_natCast, Int.toNat_natCast, same 278 (by omega)]
    refine ⟨⟨by omega, by omega⟩, ⟨by omega, by omega⟩, ⟨by omega, by omega⟩, wl fun _ => ⟨⟨by omega, by omega⟩, ⟨by omega, by omega⟩, wl fun _ => hK2 _ _ (by omega) ⟨l2 ++ [cdF (sT f t v)], by simp, ?_⟩⟩⟩
    have fa : wi (wi ξ' 278 (cdF (sT f t v)) (ξ 278 (cdF f) + 1)) 277 l2.length (cdF (sT f t v)) 278 = fun j => if j = cdF (sT f t v) then ξ 278 (cdF f) + 1 else ξ 278 j := by
      funext j
      rw [wi_cell (by omega)]
      by_cases y : j = cdF (sT f t v)
      · rw [y, wi_self]; simp
      · rw [wi_place y, same 278 (by omega)]; simp [y]
    rw [nv, hBB]
    refine ⟨⟨by simp; omega, by rw [List.getElem_append_left hx2]; exact ex2⟩, fun k a b c => ?_, rowL_s (rowL_c m2 (fun i hi => ?_)) ?_, ?_, fun x hx => ?_, fun t' v' a b y s' => ?_⟩
    · rw [← m1 k a b c, ← same k a]; funext j; rw [wi_cell b, wi_cell c]
    · rw [wi_place (by omega), wi_cell (by omega), same 277 (by omega)]
    · rw [wi_self]
    · rw [fa]
      refine bfs_add m3 hx2 lt z ?_ ?_ (fun u hu => if_neg hu)
      · rw [ex2]
        exact ⟨f, t, v, hf, rfl, by omega, by omega, s, rfl⟩
      · rw [ex2]; exact if_pos rfl
    · rcases List.mem_append.1 hx with y | y
      · exact m4 x y
      · rw [List.mem_singleton.1 y]; exact ⟨_, sd, rfl⟩
    · rw [fa]
      show 0 ≤ if cdF (sT f t' v') = cdF (sT f t v) then _ else _
      have bq := (m3.2.2.1 _ lt2).1 (by rw [← ex2]; exact List.getElem_mem hx2)
      by_cases y2 : cdF (sT f t' v') = cdF (sT f t v)
      · rw [if_pos y2]; omega
      · rw [if_neg y2]
        refine m5 t' v' a b ?_ s'
        rcases y with y | y
        · exact Or.inl y
        · refine Or.inr ⟨y.1, ?_⟩
          have : v' ≠ v := by rintro rfl; rw [y.1] at y2; exact y2 rfl
          omega
  have v24 : v ≤ 24 := by omega
  have b193 : ∀ gr : Int, (gr = 0 ∨ gr = 1) → (gr = 1 ↔ 0 ≤ byF R (f t) v) → (gr = 1 ∨ (gu = 1 ∧ 0 ≤ byF R v (f t))) → tX11_walk_b193 (cdF f0) gu g up l2.length q (cd (f 0) (f 1) (f 2)) t (f t) v gr ξ Q K K1 K2 := by
    intro gr g01 hgr hany _
    have dv : domF R v := by
      rcases hany with z | z
      · exact Or.inl (byF_word (hgr.1 z))
      · rcases (byF_ge z.2).2 with y | y
        · exact Or.inr y.1
        · exact Or.inl y.2.1.1
    have sd := sT_dom (t := t) hf dv
    have lt := cdF_lt (fun j hj => dl (sd j hj))
    have ln := lnb _ sd
    have ec : wt (f 0 : Int) (f 1) (f 2) t v = (cdF (sT f t v) : Int) := by
      rw [wt_tb (by omega) (by omega), Int.toNat_natCast]; rfl
    have fc := cdF_lt fl
    refine ⟨by rw [cdF_cd]; exact ⟨by omega, by omega⟩, ⟨by omega, by omega⟩, ⟨by omega, by omega⟩, r_withWord (kk 0 (by omega)) (kk 1 (by omega)) (kk 2 (by omega)) ⟨by omega, by omega⟩ (fun _ _ => ?_)⟩
    rw [ec, Int.toNat_natCast]
    have nofall : gr = 1 → ¬ (gu = 1 ∧ 0 ≤ byF R v (f t)) := by
      intro z y
      have p1 := byF_ge (hgr.1 z)
      have p2 := byF_ge y.2
      have l1 := p1.1.1
      have l2' := p2.1.1
      rcases p1.2 with p | p <;> rcases p2.2 with p' | p' <;> omega
    refine ⟨⟨by omega, by omega⟩, fun z => skip ξ (fun _ _ => rfl) (fun _ => z), fun z => r_lettersAt x3 hR sd (fun _ _ => ⟨⟨by omega, by omega⟩, fun y => skip ξ (fun _ _ => rfl) (fun s => absurd s.2 (by omega)), fun y => ⟨⟨by omega, by omega⟩, fun w => b245 ξ (fun _ _ => rfl) ⟨Or.inr (hany.resolve_left (by omega)), by omega⟩ z, fun w => r_areThere x3 hR sd g0 g1 (fun ω' s1 s2 _ _ => ⟨fun _ => b245 ω' s1 ⟨Or.inl ⟨hgr.1 (by omega), s2⟩, by omega⟩ z, fun u => absurd u (by decide)⟩) (fun ω' s1 s2 _ _ => ⟨fun u => absurd u (by decide), fun _ => skip ω' s1 (fun s => ?_)⟩)⟩⟩)⟩
    rcases s.1 with s | s
    · exact absurd s.2 s2
    · exact absurd s (nofall (by omega))
  have b178 : ∀ gr fl : Int, (gr = 0 ∨ gr = 1) → (fl = 0 ∨ fl = 1) → (gr = 1 ↔ 0 ≤ byF R (f t) v) → (fl = 1 ↔ (gu = 1 ∧ 0 ≤ byF R v (f t))) → tX11_walk_b178 (cdF f0) gu g up l2.length q (cd (f 0) (f 1) (f 2)) t (f t) v gr fl ξ Q K K1 K2 := by
    intro gr fl' g01 f01 hgr hfl _
    refine ⟨xIz g01, fun z => b193 gr g01 hgr (Or.inl (by omega)), fun z => ⟨xIz f01, fun y => b193 gr g01 hgr (Or.inr (hfl.1 (by omega))), fun y => skip ξ (fun _ _ => rfl) (fun s => ?_)⟩⟩
    rcases s.1 with s | s
    · have := hgr.2 s.1; omega
    · have := hfl.2 s; omega
  have b126 : ∀ gr : Int, (gr = 0 ∨ gr = 1) → (gr = 1 ↔ 0 ≤ byF R (f t) v) → tX11_walk_b126 (cdF f0) gu g up l2.length q (cd (f 0) (f 1) (f 2)) t (f t) v gr ξ Q K K1 K2 := by
    intro gr g01 hgr _
    have nofall : ¬ (gu = 1 ∧ 0 ≤ byF R v (f t)) → tX11_walk_b177 (cdF f0) gu g up l2.length q (cd (f 0) (f 1) (f 2)) t (f t) v gr ξ Q K K1 K2 := fun z _ => b178 gr 0 g01 (Or.inl rfl) hgr ⟨fun y => absurd y (by decide), fun y => absurd y z⟩
    have b157 : gu = 1 → f t < 24 → tX11_walk_b157 (cdF f0) gu g up l2.length q (cd (f 0) (f 1) (f 2)) t (f t) v gr ξ Q K K1 K2 := by
      intro z z2 _
      rw [show (24 * (v : Int) + (f t : Nat)).toNat = 24 * v + f t by omega, x267 v (f t) (by omega) z2]
      exact ⟨⟨by omega, by omega⟩, fun y => nofall (fun u => by have := u.2; omega), fun y => b178 gr 1 g01 (Or.inr rfl) hgr ⟨fun _ => ⟨z, by omega⟩, fun _ => rfl⟩⟩
    refine ⟨fun z => nofall (fun y => by have := y.1; omega), fun z => ⟨⟨by omega, by omega⟩, fun z2 => nofall (fun y => ?_), fun z2 => ⟨⟨by omega, by omega⟩, fun z3 => b157 z (by omega), fun z3 => ?_⟩⟩⟩
    · have := (byF_ge y.2).1.1; omega
    · rw [x3]
      refine ⟨fun z4 => nofall (fun y => ?_), fun z4 => b157 z (by omega)⟩
      rcases (byF_ge y.2).2 with p | p
      · omega
      · have := p.2.1.1; omega
  refine ⟨fun z _ => b126 0 (Or.inl rfl) ⟨fun y => absurd y (by decide), fun y => ?_⟩, fun z => ?_⟩
  · have := byF_word y; omega
  · rw [show (24 * ((f t : Nat) : Int) + (v : Int)).toNat = 24 * f t + v by omega, x267 (f t) v (by omega) (by omega)]
    exact ⟨⟨by omega, by omega⟩, fun y _ => b126 0 (Or.inl rfl) ⟨fun u => absurd u (by decide), fun u => by omega⟩, fun y => b126 1 (Or.inr rfl) ⟨fun _ => by omega, fun _ => rfl⟩⟩
