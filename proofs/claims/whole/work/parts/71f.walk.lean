/-! the reference's walks from tables to tables -/
def lenC (R : Nat → Int) (f : Nat → Nat) : Int := lnF R (f 0) + lnF R (f 1) + lnF R (f 2)
def cdF (f : Nat → Nat) : Nat := cdN (f 0) (f 1) (f 2)
theorem cdF_cd (f : Nat → Nat) : cd (f 0 : Int) (f 1) (f 2) = (cdF f : Int) := cdN_cd _ _ _
theorem cdF_inj {f g : Nat → Nat} (hf : ∀ j, j < 3 → f j ≤ 24) (hg : ∀ j, j < 3 → g j ≤ 24) (h : cdF f = cdF g) : ∀ j, j < 3 → f j = g j := by
  have a0 := hf 0 (by omega); have a1 := hf 1 (by omega); have a2 := hf 2 (by omega)
  have b0 := hg 0 (by omega); have b1 := hg 1 (by omega); have b2 := hg 2 (by omega)
  unfold cdF cdN at h
  intro j hj
  rcases (show j = 0 ∨ j = 1 ∨ j = 2 by omega) with rfl | rfl | rfl <;> omega
theorem cdF_lt {f : Nat → Nat} (hf : ∀ j, j < 3 → f j ≤ 24) : cdF f < 15625 := by
  have a0 := hf 0 (by omega); have a1 := hf 1 (by omega); have a2 := hf 2 (by omega)
  unfold cdF cdN; omega
theorem r_lettersAt {μ : xM} {R : Nat → Int} {f : Nat → Nat} {Q : Int → xM → Prop} (e : μ 263 = R) (hR : okR R) (hf : ∀ j, j < 3 → domF R (f j)) (hq : Q (lenC R f) μ) : tX11_lettersAt (cdF f) μ Q := by
  have bW := hR.W
  have l0 := domF_le hR (hf 0 (by omega))
  have l1 := domF_le hR (hf 1 (by omega))
  have l2 := domF_le hR (hf 2 (by omega))
  intro _ _
  rw [← cdF_cd]
  refine rd2b (n := 3) (fun t s => s = sumN (fun t => lnF R (f t)) t.toNat ∧ 0 ≤ s ∧ s ≤ 6 * t) (by omega) ⟨rfl, by omega, by omega⟩ ?_
  rintro t s K t0 t1 ⟨rfl, s0, s1⟩ hK
  obtain ⟨n, rfl⟩ : ∃ n : Nat, t = n := ⟨t.toNat, by omega⟩
  rw [Int.toNat_natCast] at s0 s1 ⊢
  refine ⟨⟨by omega, by omega⟩, fun d => ⟨⟨by omega, by omega⟩, ?_⟩, fun d => ?_⟩
  · rw [show n = 3 by omega]
    have : sumN (fun t => lnF R (f t)) 3 = lenC R f := by unfold lenC; simp only [sumN]; omega
    rw [this]; exact hq
  · have rt := hf n (by omega)
    have ln := lnF_rng hR rt
    have w24 := domF_le hR rt
    have nn : ((n : Int) + 1).toNat = n + 1 := by omega
    have epk : pk (f 0 : Int) (f 1) (f 2) (n : Int) = f n := pk_st (f := fun j => (f j : Int)) (by omega)
    refine r_wordOf ⟨by omega, by omega⟩ ⟨by omega, by omega⟩ ⟨by omega, by omega⟩ (fun _ _ => ?_)
    rw [epk]
    refine ⟨fun z => r_wordOf ⟨by omega, by omega⟩ ⟨by omega, by omega⟩ ⟨by omega, by omega⟩ (fun _ _ => ?_), fun z => hK _ (by omega) ⟨?_, by omega, by omega⟩⟩
    · rw [epk, show (7 + ((f n : Nat) : Int)).toNat = 7 + f n by omega, e]
      refine ⟨⟨by omega, by omega⟩, hK _ (by omega) ?_⟩
      have el : lnF R (f n) = R (7 + f n) := by unfold lnF; rw [if_neg (by omega)]
      rw [nn]
      simp only [sumN]
      rw [el]
      exact ⟨rfl, by omega, by omega⟩
    · rw [nn]; simp only [sumN]; unfold lnF; rw [if_pos (show f n = 24 by omega)]
theorem r_areThere {μ : xM} {R : Nat → Int} {f : Nat → Nat} {g : Int} {Q : Int → xM → Prop} (e : μ 263 = R) (hR : okR R) (hf : ∀ j, j < 3 → domF R (f j)) (g0 : 0 ≤ g) (g1 : g ≤ R 4)
    (hq1 : ∀ ω : xM, (∀ k, k ≠ 273 → ω k = μ k) → thereF R (f 0) (f 1) (f 2) g.toNat → Q 1 ω) (hq0 : ∀ ω : xM, (∀ k, k ≠ 273 → ω k = μ k) → ¬ thereF R (f 0) (f 1) (f 2) g.toNat → Q 0 ω) : tX11_areThere (cdF f) g μ Q := by
  subst e
  have bW := hR.W
  have bN := hR.N
  have l0 := domF_le hR (hf 0 (by omega))
  have l1 := domF_le hR (hf 1 (by omega))
  have l2 := domF_le hR (hf 2 (by omega))
  have cr : ∀ t, t < 3 → ∀ c, 0 ≤ cntW (μ 263) (f t) c ∧ cntW (μ 263) (f t) c ≤ 6 := fun t ht c => cntW_rng hR (hf t ht) c
  have sr : ∀ n, n ≤ 3 → ∀ c : Int, 0 ≤ sumN (fun t => cntW (μ 263) (f t) c) n ∧ sumN (fun t => cntW (μ 263) (f t) c) n ≤ 6 * n := fun n hn c => by
    have a := sumN_le (f := fun _ => 0) (g := fun t => cntW (μ 263) (f t) c) n (fun t ht => (cr t (by omega) c).1)
    have b := sumN_le (f := fun t => cntW (μ 263) (f t) c) (g := fun _ => 6) n (fun t ht => (cr t (by omega) c).2)
    rw [sumN_k] at a b
    omega
  have th : thereF (μ 263) (f 0) (f 1) (f 2) g.toNat ↔ ∀ c : Nat, c < 26 → sumN (fun t => cntW (μ 263) (f t) c) 3 ≤ cntG (μ 263) g.toNat c := by
    unfold thereF
    constructor
    · intro h c hc
      have := h c (by omega) (by omega)
      simp only [sumN]; omega
    · intro h x x0 x1
      have := h x.toNat (by omega)
      rw [show ((x.toNat : Nat) : Int) = x by omega] at this
      simp only [sumN] at this; omega
  intro _ _ _
  rw [← cdF_cd]
  refine up1 (n := 26) (fun i ν => ν = fillM μ 273 i.toNat 0) (by omega) (fillM_zero μ 273 0).symm ?_
  rintro i ν K i0 i1 rfl _ hK
  refine ⟨⟨by omega, by omega⟩, fun c => ?_, fun c => ⟨⟨i0, by omega⟩, wl fun _ => hK _ (by omega) (by rw [fillM_succ, show (i + 1).toNat = i.toNat + 1 by omega])⟩⟩
  rw [show i.toNat = 26 by omega]
  refine up1 (n := g) (fun j ξ => (∀ k, k ≠ 273 → ξ k = μ k) ∧ (∀ c : Nat, c < 26 → ξ 273 c = cntG (μ 263) j.toNat c)) (by omega) ⟨fun k hk => by funext j; simp [fillM, hk], fun c hc => by simp [fillM, hc, cntG]⟩ ?_
  rintro j ξ K j0 j1 ⟨x1, x2⟩ _ hK
  have e3 : ξ 263 = μ 263 := x1 263 (by omega)
  rw [e3]
  refine ⟨⟨by omega, by omega⟩, fun d => ?_, fun d => ⟨⟨by omega, by omega⟩, ?_⟩⟩
  rotate_left
  · have bx := hR.fst (g := j.toNat) (by omega)
    rw [show (295 + j).toNat = 295 + j.toNat by omega]
    have cx := x2 (μ 263 (295 + j.toNat)).toNat (by omega)
    have cg := cntG_rng (μ 263) ((μ 263 (295 + j.toNat)).toNat : Nat) j.toNat
    refine ⟨⟨by omega, by omega⟩, ⟨by omega, by omega⟩, wl fun _ => hK _ (by omega) ⟨fun k hk => ?_, fun c hc => ?_⟩⟩
    · rw [← x1 k hk]; funext j; exact wi_cell hk
    · rw [show (j + 1).toNat = j.toNat + 1 by omega]
      simp only [cntG]
      by_cases q : c = (μ 263 (295 + j.toNat)).toNat
      · subst q; rw [wi_self, x2 _ hc, if_pos (by omega)]
      · rw [wi_place q, x2 c hc, if_neg (by omega)]; omega
  rw [show j = g by omega] at x2
  refine up1 (n := 3) (fun t ω => (∀ k, k ≠ 273 → ω k = μ k) ∧ (∀ c : Nat, c < 26 → ω 273 c = cntG (μ 263) g.toNat c - sumN (fun t => cntW (μ 263) (f t) c) t.toNat)) (by omega) ⟨x1, fun c hc => by rw [x2 c hc]; simp [sumN]⟩ ?_
  rintro t ω K t0 t1 ⟨y1, y2⟩ _ hK
  obtain ⟨n, rfl⟩ : ∃ n : Nat, t = n := ⟨t.toNat, by omega⟩
  rw [Int.toNat_natCast] at y2
  have f3 : ω 263 = μ 263 := y1 263 (by omega)
  refine ⟨⟨by omega, by omega⟩, fun d2 => ?_, fun d2 => ?_⟩
  · rw [show n = 3 by omega] at y2
    refine rd2b (n := 26) (fun c a => (a = 1 ∧ ∀ c' : Nat, (c' : Int) < c → sumN (fun t => cntW (μ 263) (f t) c') 3 ≤ cntG (μ 263) g.toNat c') ∨ (a = 0 ∧ ¬ thereF (μ 263) (f 0) (f 1) (f 2) g.toNat)) (by omega) (Or.inl ⟨rfl, fun c' hc => by omega⟩) ?_
    rintro c a K2 c0 c1 ha hK2
    obtain ⟨m, rfl⟩ : ∃ m : Nat, c = m := ⟨c.toNat, by omega⟩
    refine ⟨⟨by omega, by omega⟩, fun d3 => ?_, fun d3 => ?_⟩
    · rcases ha with ⟨rfl, ha⟩ | ⟨rfl, ha⟩
      · exact ⟨Or.inr rfl, hq1 ω y1 (th.2 (fun c' hc => ha c' (by omega)))⟩
      · exact ⟨Or.inl rfl, hq0 ω y1 ha⟩
    · rw [Int.toNat_natCast, y2 m (by omega)]
      rcases ha with ⟨rfl, ha⟩ | ⟨rfl, ha⟩
      · refine ⟨⟨by omega, by omega⟩, fun z => absurd z (by decide), fun _ => ⟨⟨by omega, by omega⟩, fun z => hK2 _ (by omega) (Or.inr ⟨rfl, fun y => ?_⟩), fun z => hK2 _ (by omega) (Or.inl ⟨rfl, fun c' hc => ?_⟩)⟩⟩
        · have := th.1 y m (by omega); omega
        · by_cases q : c' = m
          · subst q; omega
          · exact ha c' (by omega)
      · exact ⟨⟨by omega, by omega⟩, fun _ => hK2 _ (by omega) (Or.inr ⟨rfl, ha⟩), fun z => absurd rfl z⟩
  · have rt := hf n (by omega)
    have w24 := domF_le hR rt
    have nn : ((n : Int) + 1).toNat = n + 1 := by omega
    have epk : pk (f 0 : Int) (f 1) (f 2) (n : Int) = f n := pk_st (f := fun j => (f j : Int)) (by omega)
    refine r_wordOf ⟨by omega, by omega⟩ ⟨by omega, by omega⟩ ⟨by omega, by omega⟩ (fun _ _ => ?_)
    rw [epk]
    have ln := lnF_rng hR rt
    refine up1 (n := lnF (μ 263) (f n)) (fun j ω' => (∀ k, k ≠ 273 → ω' k = μ k) ∧ (∀ c : Nat, c < 26 → ω' 273 c = cntG (μ 263) g.toNat c - sumN (fun t => cntW (μ 263) (f t) c) n - cntL (μ 263) (f n) j.toNat c)) (by omega) ⟨y1, fun c hc => by rw [y2 c hc]; simp [cntL]⟩ ?_
    rintro j2 ω' K3 h0 h1 ⟨z1, z2⟩ _ hK3
    have g3 : ω' 263 = μ 263 := z1 263 (by omega)
    have fin : j2 = lnF (μ 263) (f n) → K (n + 1) ω' := fun ej => hK ω' (by omega) ⟨z1, fun c hc => by
      rw [nn, z2 c hc, ej]
      simp only [sumN]
      rw [cntW_ln]; omega⟩
    refine ⟨fun z => fin ?_, fun z => ?_⟩
    · have : lnF (μ 263) (f n) = 0 := by unfold lnF; rw [if_pos (by omega)]
      omega
    · have ww : ((f n : Nat) : Int) < μ 263 3 := rt.resolve_right (by omega)
      have el : lnF (μ 263) (f n) = μ 263 (7 + f n) := by unfold lnF; rw [if_neg (by omega)]
      rw [show (7 + ((f n : Nat) : Int)).toNat = 7 + f n by omega, g3]
      refine ⟨⟨by omega, by omega⟩, ⟨by omega, by omega⟩, fun d4 => fin (by omega), fun d4 => r_letterAt g3 hR ⟨by omega, ww⟩ h0 (by rw [Int.toNat_natCast]; omega) (fun _ _ => ?_)⟩
      rw [Int.toNat_natCast]
      have bx := hR.let (w := f n) (i := j2.toNat) ww (by omega)
      have zx := z2 (μ 263 (31 + 6 * f n + j2.toNat) - 97).toNat (by omega)
      have s3 := sr n (by omega) ((μ 263 (31 + 6 * f n + j2.toNat) - 97).toNat : Nat)
      have cl := cntL_rng (μ 263) (f n) ((μ 263 (31 + 6 * f n + j2.toNat) - 97).toNat : Nat) j2.toNat
      have cg := cntG_rng (μ 263) ((μ 263 (31 + 6 * f n + j2.toNat) - 97).toNat : Nat) g.toNat
      refine ⟨⟨by omega, by omega⟩, ⟨by omega, by omega⟩, wl fun _ => hK3 _ (by omega) ⟨fun k hk => ?_, fun c hc => ?_⟩⟩
      · rw [← z1 k hk]; funext j2; exact wi_cell hk
      · rw [show (j2 + 1).toNat = j2.toNat + 1 by omega]
        simp only [cntL]
        by_cases q : c = (μ 263 (31 + 6 * f n + j2.toNat) - 97).toNat
        · subst q; rw [wi_self, zx, if_pos (by omega)]; omega
        · rw [wi_place q, z2 c hc, if_neg (by omega)]; omega
/-- one step: the table at t becomes v -/
def stTV (R : Nat → Int) (gu g up : Int) (f : Nat → Nat) (t v : Nat) : Prop := ((0 ≤ byF R (f t) v ∧ thereF R (sT f t v 0) (sT f t v 1) (sT f t v 2) g.toNat) ∨ (gu = 1 ∧ 0 ≤ byF R v (f t))) ∧ g - lenC R (sT f t v) ≤ up
def adjW (R : Nat → Int) (gu g up : Int) (x y : Nat) : Prop := ∃ (f : Nat → Nat) (t v : Nat), (∀ j, j < 3 → domF R (f j)) ∧ x = cdF f ∧ (t : Int) < R 0 ∧ v ≤ 24 ∧ stTV R gu g up f t v ∧ y = cdF (sT f t v)
theorem sT_c {f g : Nat → Nat} {t v : Nat} (h : ∀ j, j < 3 → f j = g j) : ∀ j, j < 3 → sT f t v j = sT g t v j := by
  intro j hj
  unfold sT
  split
  · rfl
  · exact h j hj
theorem stTV_c {R : Nat → Int} {gu g up : Int} {f f' : Nat → Nat} {t v : Nat} (ht : t < 3) (h : ∀ j, j < 3 → f j = f' j) (hs : stTV R gu g up f t v) : stTV R gu g up f' t v := by
  have e := sT_c (t := t) (v := v) h
  unfold stTV lenC at *
  rw [← e 0 (by omega), ← e 1 (by omega), ← e 2 (by omega), ← h t ht]
  exact hs
theorem cdF_c {f g : Nat → Nat} (h : ∀ j, j < 3 → f j = g j) : cdF f = cdF g := by
  unfold cdF
  rw [h 0 (by omega), h 1 (by omega), h 2 (by omega)]
theorem stTV_dom {R : Nat → Int} {gu g up : Int} {f : Nat → Nat} {t v : Nat} (h : stTV R gu g up f t v) : domF R v := by
  rcases h.1 with z | z
  · exact Or.inl (byF_word z.1)
  · rcases (byF_ge z.2).2 with y | y
    · exact Or.inr y.1
    · exact Or.inl y.2.1.1
theorem sT_dom {R : Nat → Int} {f : Nat → Nat} {t v : Nat} (hf : ∀ j, j < 3 → domF R (f j)) (hv : domF R v) : ∀ j, j < 3 → domF R (sT f t v j) := by
  intro j hj
  unfold sT
  split
  · exact hv
  · exact hf j hj
