/-! stairs: codes, kinds, letters -/
def cdX (f : Nat → Nat) : Nat := (f 0 * 25 + f 1) * 25 + f 2
theorem cdX_lt {f : Nat → Nat} (hf : ∀ j, j < 3 → f j ≤ 24) : cdX f < 15625 := by
  have a0 := hf 0 (by omega); have a1 := hf 1 (by omega); have a2 := hf 2 (by omega)
  unfold cdX; omega
theorem cdX_inj {f g : Nat → Nat} (hf : ∀ j, j < 3 → f j ≤ 24) (hg : ∀ j, j < 3 → g j ≤ 24) (h : cdX f = cdX g) : ∀ j, j < 3 → f j = g j := by
  have a0 := hf 0 (by omega); have a1 := hf 1 (by omega); have a2 := hf 2 (by omega)
  have b0 := hg 0 (by omega); have b1 := hg 1 (by omega); have b2 := hg 2 (by omega)
  unfold cdX at h
  intro j hj
  rcases (show j = 0 ∨ j = 1 ∨ j = 2 by omega) with rfl | rfl | rfl <;> omega
theorem cdX_c {f g : Nat → Nat} (h : ∀ j, j < 3 → f j = g j) : cdX f = cdX g := by
  unfold cdX
  rw [h 0 (by omega), h 1 (by omega), h 2 (by omega)]
theorem s_codeOf {μ : xM} {f : Nat → Nat} {Q : Int → xM → Prop} (hf : ∀ j, j < 3 → f j ≤ 24) (hq : Q (cdX f) μ) : tX7_codeOf (f 0) (f 1) (f 2) μ Q := by
  have l := cdX_lt hf
  intro _ _ _ _
  have e : (((f 0 : Nat) : Int) * 25 + (f 1 : Nat)) * 25 + (f 2 : Nat) = (cdX f : Int) := by unfold cdX; omega
  rw [e]
  exact ⟨⟨by omega, by omega⟩, hq⟩
theorem s_kindAt {μ : xM} {f : Nat → Nat} {t : Nat} {Q : Int → xM → Prop} (hf : ∀ j, j < 3 → f j ≤ 24) (ht : t < 3) (hq : Q (f t) μ) : tX7_kindAt (cdX f) t μ Q := by
  have l := cdX_lt hf
  have a0 := hf 0 (by omega); have a1 := hf 1 (by omega); have a2 := hf 2 (by omega)
  have d1 : ((cdX f : Nat) : Int).tdiv 25 = ((cdX f / 25 : Nat) : Int) := by rw [Int.tdiv_eq_ediv_of_nonneg (by omega)]; omega
  have e0 : ((cdX f : Nat) : Int).tdiv 625 = (f 0 : Nat) := by rw [Int.tdiv_eq_ediv_of_nonneg (by omega)]; unfold cdX; omega
  have e1 : (((cdX f / 25 : Nat) : Int)).tmod 25 = (f 1 : Nat) := by rw [Int.tmod_eq_emod_of_nonneg (by omega)]; unfold cdX; omega
  have e2 : ((cdX f : Nat) : Int).tmod 25 = (f 2 : Nat) := by rw [Int.tmod_eq_emod_of_nonneg (by omega)]; unfold cdX; omega
  intro _ _ _
  rw [d1, e0, e1, e2]
  refine ⟨fun z => ⟨fun z2 => ⟨⟨by omega, by omega⟩, ?_⟩, fun z2 => ⟨⟨by omega, by omega⟩, ⟨by omega, by omega⟩, ?_⟩⟩, fun z => ⟨⟨by omega, by omega⟩, ?_⟩⟩
  · rw [show t = 2 by omega] at hq; exact hq
  · rw [show t = 1 by omega] at hq; exact hq
  · rw [show t = 0 by omega] at hq; exact hq
theorem w_len {μ : xM} {w : Nat} {Q : Int → xM → Prop} (h : iOpW μ) (hw : domF (μ 263) w) (hq : Q (lnF (μ 263) w) μ) : tX2_lengthOf 39 w μ Q := by
  have a3 := h.2.2.1.1 3 (by omega)
  have b := h.2.1.W
  refine s_hLen (fun q => ?_) (fun q => ?_)
  · obtain ⟨q1, q2, q3⟩ := q
    have c := (h.2.2.1.2.1 w (by omega) (by omega)).1
    show Q (μ 40 (w : Int).toNat) μ
    rw [Int.toNat_natCast, c]
    unfold lnF at hq
    rw [if_neg (by omega)] at hq; exact hq
  · have : w = 24 := hw.resolve_left (fun z => q ⟨by omega, by omega, by omega⟩)
    unfold lnF at hq
    rw [if_pos this] at hq; exact hq
theorem s_standingAt {μ : xM} {f : Nat → Nat} {Q : Int → xM → Prop} (h : iOpW μ) (hf : ∀ j, j < 3 → domF (μ 263) (f j)) (hp : 0 ≤ μ 236 11 ∧ μ 236 11 ≤ 8) (hq : Q (μ 236 11 - lenC (μ 263) f) μ) : tX7_standingAt (cdX f) μ Q := by
  have dl : ∀ j, j < 3 → f j ≤ 24 := fun j hj => domF_le h.2.1 (hf j hj)
  have a := lnF_rng h.2.1 (hf 0 (by omega)); have b := lnF_rng h.2.1 (hf 1 (by omega)); have c := lnF_rng h.2.1 (hf 2 (by omega))
  intro _ _
  refine s_kindAt (t := 0) dl (by omega) (fun _ _ => w_len h (hf 0 (by omega)) (fun _ _ => s_kindAt (t := 1) dl (by omega) (fun _ _ => w_len h (hf 1 (by omega)) (fun _ _ => s_kindAt (t := 2) dl (by omega) (fun _ _ => w_len h (hf 2 (by omega)) (fun _ _ => ⟨⟨by omega, by omega⟩, ?_⟩))))))
  have : μ 236 11 - lnF (μ 263) (f 0) - lnF (μ 263) (f 1) - lnF (μ 263) (f 2) = μ 236 11 - lenC (μ 263) f := by unfold lenC; omega
  rw [this]; exact hq
/-- the letters of all three tables -/
def cn3 (R : Nat → Int) (f : Nat → Nat) (c : Int) : Int := cntW R (f 0) c + cntW R (f 1) c + cntW R (f 2) c
theorem s_shift {μ : xM} {f : Nat → Nat} {p : Int} {Q : xM → Prop} (h : iOpW μ) (hf : ∀ j, j < 3 → domF (μ 263) (f j)) (hp : p = 1 ∨ p = -1) (hb : ∀ c : Nat, c < 26 → -100 ≤ μ 237 c ∧ μ 237 c ≤ 100)
    (hq : ∀ ω : xM, (∀ k, k ≠ 237 → ω k = μ k) → (∀ c : Nat, c < 26 → ω 237 c = μ 237 c + p * cn3 (μ 263) f c) → Q ω) : tX7_shift (cdX f) p μ Q := by
  have hR := h.2.1
  have bW := hR.W
  have dl : ∀ j, j < 3 → f j ≤ 24 := fun j hj => domF_le hR (hf j hj)
  have cr : ∀ t, t < 3 → ∀ c, 0 ≤ cntW (μ 263) (f t) c ∧ cntW (μ 263) (f t) c ≤ 6 := fun t ht c => cntW_rng hR (hf t ht) c
  have sr : ∀ n, n ≤ 3 → ∀ c : Int, 0 ≤ sumN (fun t => cntW (μ 263) (f t) c) n ∧ sumN (fun t => cntW (μ 263) (f t) c) n ≤ 6 * n := fun n hn c => by
    have a := sumN_le (f := fun _ => 0) (g := fun t => cntW (μ 263) (f t) c) n (fun t ht => (cr t (by omega) c).1)
    have b := sumN_le (f := fun t => cntW (μ 263) (f t) c) (g := fun _ => 6) n (fun t ht => (cr t (by omega) c).2)
    rw [sumN_k] at a b
    omega
  have pm : ∀ x y : Int, p * (x + y) = p * x + p * y := fun x y => Int.mul_add _ _ _
  have p1 : ∀ x : Int, p * x = x ∨ p * x = - x := fun x => by
    rcases hp with rfl | rfl
    · left; omega
    · right; omega
  intro _ _ _
  refine up1 (n := 3) (fun t ξ => (∀ k, k ≠ 237 → ξ k = μ k) ∧ (∀ c : Nat, c < 26 → ξ 237 c = μ 237 c + p * sumN (fun t => cntW (μ 263) (f t) c) t.toNat)) (by omega) ⟨fun _ _ => rfl, fun c hc => by simp [sumN]⟩ ?_
  rintro t ξ K t0 t1 ⟨x1, x2⟩ _ hK
  obtain ⟨n, rfl⟩ : ∃ n : Nat, t = n := ⟨t.toNat, by omega⟩
  rw [Int.toNat_natCast] at x2
  have nn : ((n : Int) + 1).toNat = n + 1 := by omega
  have xo : ∀ ξ : xM, (∀ k, k ≠ 237 → ξ k = μ k) → iOpW ξ := fun ξ x1 => iOpW_c (by rw [x1 260 (by omega)]) (fun k hk => x1 k (by omega)) h
  have e3 : ξ 263 = μ 263 := x1 263 (by omega)
  refine ⟨⟨by omega, by omega⟩, fun d => hq ξ x1 (fun c hc => ?_), fun d => ?_⟩
  · rw [x2 c hc, show n = 3 by omega]
    have : sumN (fun t => cntW (μ 263) (f t) c) 3 = cn3 (μ 263) f c := by unfold cn3; simp only [sumN]; omega
    rw [this]
  have rt := hf n (by omega)
  have w24 := dl n (by omega)
  have ln := lnF_rng hR rt
  refine s_kindAt dl (by omega) (fun _ _ => w_glyphs (xo ξ x1) (by rw [e3]; exact rt) (fun _ => ⟨lay_g w24, ?_⟩))
  refine up1 (n := lnF (μ 263) (f n)) (fun i ω => (∀ k, k ≠ 237 → ω k = μ k) ∧ (∀ c : Nat, c < 26 → ω 237 c = μ 237 c + p * sumN (fun t => cntW (μ 263) (f t) c) n + p * cntL (μ 263) (f n) i.toNat c)) (by omega) ⟨x1, fun c hc => by rw [x2 c hc]; simp [cntL]⟩ ?_
  rintro i ω K2 i0 i1 ⟨y1, y2⟩ _ hK2
  have fin : i = lnF (μ 263) (f n) → K (n + 1) ω := fun ei => hK ω (by omega) ⟨y1, fun c hc => by
    rw [nn, y2 c hc, ei]
    simp only [sumN]
    rw [cntW_ln, pm]; omega⟩
  refine ⟨⟨by omega, by omega⟩, fun c => fin (by omega), fun c => ⟨⟨i0, by omega⟩, ?_⟩⟩
  have gi := glyph_at (i := i.toNat) h rt (by omega)
  rw [y1 (43 + f n) (by omega), gi]
  by_cases e : i < lnF (μ 263) (f n)
  · rw [if_pos (by omega)]
    have n24 : f n ≠ 24 := by intro z; rw [z] at e; simp [lnF] at e; omega
    have ww : ((f n : Nat) : Int) < μ 263 3 := rt.resolve_right n24
    have eln : lnF (μ 263) (f n) = μ 263 (7 + f n) := by unfold lnF; rw [if_neg n24]
    have bx := hR.let (w := f n) (i := i.toNat) ww (by omega)
    obtain ⟨x, ex⟩ : ∃ x : Nat, μ 263 (31 + 6 * f n + i.toNat) - 97 = x := ⟨(μ 263 (31 + 6 * f n + i.toNat) - 97).toNat, by omega⟩
    have x26 : x < 26 := by omega
    have yx := y2 x x26
    have bx2 := hb x x26
    have s3 := sr n (by omega) (x : Nat)
    have cl := cntL_rng (μ 263) (f n) (x : Nat) i.toNat
    have q1 := p1 (sumN (fun t => cntW (μ 263) (f t) x) n)
    have q2 := p1 (cntL (μ 263) (f n) i.toNat x)
    rw [ex]
    refine ⟨fun z => by omega, fun _ => ⟨fun z => by omega, fun _ => ⟨⟨by omega, by omega⟩, ?_⟩⟩⟩
    rw [Int.toNat_natCast]
    refine ⟨⟨by omega, by omega⟩, wl fun _ => hK2 _ e ⟨fun k hk => ?_, fun c hc => ?_⟩⟩
    · rw [← y1 k hk]; funext j; exact wi_cell hk
    · rw [show (i + 1).toNat = i.toNat + 1 by omega]
      simp only [cntL]
      by_cases q : c = x
      · subst q; rw [wi_self, if_pos (by omega), y2 c hc, pm]; omega
      · rw [wi_place q, if_neg (by omega), y2 c hc, Int.add_zero]
  · rw [if_neg (by omega)]
    exact ⟨fun _ => fin (by omega), fun z => absurd (by decide) z⟩
theorem xAnd01 : xAnd 0 0 = 0 ∧ xAnd 0 1 = 0 ∧ xAnd 1 0 = 0 ∧ xAnd 1 1 = 1 := by decide
theorem s_canBe {μ : xM} {f : Nat → Nat} {n : Nat} {Q : Int → xM → Prop} (h : iOpW μ) (hf : ∀ j, j < 3 → domF (μ 263) (f j)) (hn : μ 236 11 = n) (hn2 : (n : Int) ≤ μ 263 4) (hs : ∀ c : Nat, c < 26 → μ 237 c = cntG (μ 263) n c)
    (hq1 : ∀ ω : xM, (∀ k, k ≠ 237 → ω k = μ k) → (∀ c : Nat, c < 26 → ω 237 c = cntG (μ 263) n c) → (n : Int) - lenC (μ 263) f ≤ μ 236 12 → thereF (μ 263) (f 0) (f 1) (f 2) n → Q 1 ω)
    (hq0 : ∀ ω : xM, (∀ k, k ≠ 237 → ω k = μ k) → ¬ ((n : Int) - lenC (μ 263) f ≤ μ 236 12 ∧ thereF (μ 263) (f 0) (f 1) (f 2) n) → Q 0 ω) : tX7_canBe (cdX f) μ Q := by
  have hR := h.2.1
  have bN := hR.N
  have cg : ∀ c : Int, 0 ≤ cntG (μ 263) n c ∧ cntG (μ 263) n c ≤ n := fun c => cntG_rng _ _ _
  have c3 : ∀ c : Int, 0 ≤ cn3 (μ 263) f c ∧ cn3 (μ 263) f c ≤ 18 := fun c => by
    have a := cntW_rng hR (hf 0 (by omega)) c; have b := cntW_rng hR (hf 1 (by omega)) c; have d := cntW_rng hR (hf 2 (by omega)) c
    unfold cn3; omega
  have th : thereF (μ 263) (f 0) (f 1) (f 2) n ↔ ∀ c : Nat, c < 26 → 0 ≤ cntG (μ 263) n c - cn3 (μ 263) f c := by
    unfold thereF cn3
    constructor
    · intro z c hc; have := z c (by omega) (by omega); omega
    · intro z x x0 x1
      have := z x.toNat (by omega)
      rw [show ((x.toNat : Nat) : Int) = x by omega] at this
      omega
  have b17 : ∀ s0 : Int, (s0 = 0 ∨ s0 = 1) → (s0 = 1 ↔ (n : Int) - lenC (μ 263) f ≤ μ 236 12) → tX7_canBe_b17 (cdX f) s0 μ Q := by
    intro s0 h01 hs0 _
    refine s_shift h hf (Or.inr rfl) (fun c hc => by rw [hs c hc]; have := cg c; omega) (fun ω w1 w2 _ => ?_)
    have wo : iOpW ω := iOpW_c (by rw [w1 260 (by omega)]) (fun k hk => w1 k (by omega)) h
    have w3 : ω 263 = μ 263 := w1 263 (by omega)
    have wv : ∀ c : Nat, c < 26 → ω 237 c = cntG (μ 263) n c - cn3 (μ 263) f c := fun c hc => by rw [w2 c hc, hs c hc]; omega
    refine rd2b (n := 26) (fun c a => (a = 0 ∨ a = 1) ∧ (a = 1 ↔ (s0 = 1 ∧ ∀ c' : Nat, (c' : Int) < c → 0 ≤ cntG (μ 263) n c' - cn3 (μ 263) f c'))) (by omega) ⟨h01, ⟨fun z => ⟨z, fun c' hc => by omega⟩, fun z => z.1⟩⟩ ?_
    rintro c a K c0 c1 ⟨a01, ha⟩ hK
    obtain ⟨m, rfl⟩ : ∃ m : Nat, c = m := ⟨c.toNat, by omega⟩
    refine ⟨⟨by omega, by omega⟩, fun d => s_shift wo (by rw [w3]; exact hf) (Or.inl rfl) (fun c hc => by rw [wv c hc]; have := cg c; have := c3 c; omega) (fun ω' v1 v2 _ => ⟨a01, ?_⟩), fun d => ⟨⟨c0, by omega⟩, ?_⟩⟩
    · have fr : ∀ k, k ≠ 237 → ω' k = μ k := fun k hk => (v1 k hk).trans (w1 k hk)
      rcases a01 with rfl | rfl
      · refine hq0 ω' fr (fun z => ?_)
        have := ha.2 ⟨hs0.2 z.1, fun c' hc => th.1 z.2 c' (by omega)⟩
        omega
      · have q := ha.1 rfl
        refine hq1 ω' fr (fun c hc => ?_) (hs0.1 q.1) (th.2 (fun c' hc => q.2 c' (by omega)))
        rw [v2 c hc, wv c hc, w3]; omega
    · rw [Int.toNat_natCast, wv m (by omega)]
      refine ⟨fun z => hK _ (by omega) ⟨?_, ?_⟩, fun z => hK _ (by omega) ⟨?_, ?_⟩⟩
      · rcases a01 with rfl | rfl
        · left; exact xAnd01.1
        · left; exact xAnd01.2.2.1
      · have e0 : xAnd a 0 = 0 := by
          rcases a01 with rfl | rfl
          · exact xAnd01.1
          · exact xAnd01.2.2.1
        rw [e0]
        constructor
        · intro y; omega
        · rintro ⟨_, y⟩
          have := y m (by omega); omega
      · rcases a01 with rfl | rfl
        · left; exact xAnd01.2.1
        · right; exact xAnd01.2.2.2
      · have e1 : xAnd a 1 = a := by
          rcases a01 with rfl | rfl
          · exact xAnd01.2.1
          · exact xAnd01.2.2.2
        rw [e1, ha]
        constructor
        · rintro ⟨y1, y2⟩
          refine ⟨y1, fun c' hc => ?_⟩
          by_cases q : c' = m
          · subst q; omega
          · exact y2 c' (by omega)
        · rintro ⟨y1, y2⟩
          exact ⟨y1, fun c' hc => y2 c' (by omega)⟩
  intro _ _
  refine s_standingAt h hf (by omega) (fun _ _ => ?_)
  rw [hn]
  exact ⟨fun z => b17 0 (Or.inl rfl) ⟨fun y => absurd y (by decide), fun y => by omega⟩, fun z => b17 1 (Or.inr rfl) ⟨fun _ => by omega, fun _ => rfl⟩⟩
theorem s_gather7 {μ : xM} {o : Nat} {n : Nat} {Q : xM → Prop} (h : iOpW μ) (ho : 249 ≤ o) (hn : μ o 1 = n) (hn2 : (n : Int) ≤ μ 263 4) (hq : ∀ ω : xM, (∀ k, k ≠ 236 → k ≠ 237 → ω k = μ k) → (∀ j, j ≠ 11 → ω 236 j = μ 236 j) → ω 236 11 = n → (∀ c : Nat, c < 26 → ω 237 c = cntG (μ 263) n c) → Q ω) : tX7_gather o μ Q := by
  have hR := h.2.1
  have bN := hR.N
  intro _
  refine s_fill (by omega) (fun _ => wl fun _ => ?_)
  have e1 : fillM μ 237 26 0 o 1 = n := by unfold fillM; rw [if_neg (by omega)]; exact hn
  rw [e1]
  refine up1 (n := (n : Int)) (fun g ξ => (∀ k, k ≠ 236 → k ≠ 237 → ξ k = μ k) ∧ (∀ j, j ≠ 11 → ξ 236 j = μ 236 j) ∧ ξ 236 11 = n ∧ (∀ c : Nat, c < 26 → ξ 237 c = cntG (μ 263) g.toNat c)) (by omega) ⟨fun k a b => ?_, fun j hj => ?_, wi_self _ _ _ _, fun c hc => ?_⟩ ?_
  · funext j; rw [wi_cell a]; unfold fillM; rw [if_neg (by omega)]
  · rw [wi_place hj]; unfold fillM; rw [if_neg (by omega)]
  · rw [wi_cell (by omega)]; unfold fillM; rw [if_pos ⟨rfl, hc⟩]; rfl
  · rintro g ξ K g0 g1 ⟨x1, x2, x3, x4⟩ _ hK
    have xo : iOpW ξ := iOpW_c (by rw [x1 260 (by omega) (by omega)]) (fun k hk => x1 k (by omega) (by omega)) h
    have e3 : ξ 263 = μ 263 := x1 263 (by omega) (by omega)
    rw [x3]
    refine ⟨⟨by omega, by omega⟩, fun d => hq ξ x1 x2 x3 (fun c hc => ?_), fun d => w_first xo (fun _ _ _ _ => ?_) (fun z => absurd ⟨g0, by rw [e3]; omega⟩ z)⟩
    · rw [x4 c hc, show g.toNat = n by omega]
    · rw [e3]
      have bx := hR.fst (g := g.toNat) (by omega)
      have cx := x4 (μ 263 (295 + g.toNat)).toNat (by omega)
      have cr := cntG_rng (μ 263) ((μ 263 (295 + g.toNat)).toNat : Nat) g.toNat
      refine ⟨fun z => by omega, fun _ => ⟨fun z => by omega, fun _ => ⟨⟨by omega, by omega⟩, ⟨by omega, by omega⟩, wl fun _ => hK _ (by omega) ⟨fun k a b => ?_, fun j hj => ?_, ?_, fun c hc => ?_⟩⟩⟩⟩
      · rw [← x1 k a b]; funext j; exact wi_cell b
      · rw [wi_cell (by omega)]; exact x2 j hj
      · rw [wi_cell (by omega)]; exact x3
      · rw [show (g + 1).toNat = g.toNat + 1 by omega]
        simp only [cntG]
        by_cases q : c = (μ 263 (295 + g.toNat)).toNat
        · subst q; rw [wi_self, x4 _ hc, if_pos (by omega)]
        · rw [wi_place q, x4 c hc, if_neg (by omega)]; omega
