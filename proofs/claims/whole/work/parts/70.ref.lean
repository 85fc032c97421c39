/-! the reference's plans: letters -/
theorem r_layLetters {μ : xM} {R : Nat → Int} {Q : xM → Prop} (e : μ 263 = R) (hR : okR R) (hq : ∀ ω : xM, (∀ k, k ≠ 273 → ω k = μ k) → (∀ c : Nat, c < 26 → ω 273 c = cntG R (R 4).toNat c) → Q ω) : tX11_layLetters μ Q := by
  subst e
  have bN := hR.N
  intro _
  refine up1 (n := 26) (fun i ν => ν = fillM μ 273 i.toNat 0) (by omega) (fillM_zero μ 273 0).symm ?_
  rintro i ν K i0 i1 rfl _ hK
  refine ⟨⟨by omega, by omega⟩, fun c => ?_, fun c => ⟨⟨i0, by omega⟩, wl fun _ => hK _ (by omega) (by rw [fillM_succ, show (i + 1).toNat = i.toNat + 1 by omega])⟩⟩
  rw [show i.toNat = 26 by omega]
  refine up1 (n := μ 263 4) (fun g ξ => (∀ k, k ≠ 273 → ξ k = μ k) ∧ (∀ c : Nat, c < 26 → ξ 273 c = cntG (μ 263) g.toNat c)) (by omega) ⟨fun k hk => by funext j; simp [fillM, hk], fun c hc => by simp [fillM, hc, cntG]⟩ ?_
  rintro g ξ K g0 g1 ⟨x1, x2⟩ _ hK
  have e3 : ξ 263 = μ 263 := x1 263 (by omega)
  rw [e3]
  refine ⟨⟨by omega, by omega⟩, fun d => hq ξ x1 (fun c hc => ?_), fun d => ⟨⟨by omega, by omega⟩, ?_⟩⟩
  · rw [x2 c hc, show g.toNat = (μ 263 4).toNat by omega]
  · have bx := hR.fst (g := g.toNat) (by omega)
    rw [show (295 + g).toNat = 295 + g.toNat by omega]
    have cx := x2 (μ 263 (295 + g.toNat)).toNat (by omega)
    have cr := cntG_rng (μ 263) ((μ 263 (295 + g.toNat)).toNat : Nat) g.toNat
    refine ⟨⟨by omega, by omega⟩, ⟨by omega, by omega⟩, wl fun _ => hK _ (by omega) ⟨fun k hk => ?_, fun c hc => ?_⟩⟩
    · rw [← x1 k hk]; funext j; exact wi_cell hk
    · rw [show (g + 1).toNat = g.toNat + 1 by omega]
      simp only [cntG]
      by_cases q : c = (μ 263 (295 + g.toNat)).toNat
      · subst q; rw [wi_self, x2 _ hc, if_pos (by omega)]
      · rw [wi_place q, x2 c hc, if_neg (by omega)]; omega
def tri (R : Nat → Int) (r : Nat → Nat) (μ : xM) : Prop := ∀ t, t < 3 → μ 275 t = (r t : Nat) ∧ domF R (r t)
theorem r_addUp {μ : xM} {R : Nat → Int} {H : Int → Int} {r : Nat → Nat} {Q : Int → xM → Prop} (e : μ 263 = R) (hR : okR R) (hr : tri R r μ) (hH : ∀ c : Nat, c < 26 → μ 273 c = H c)
    (hq1 : ∀ ω : xM, (∀ k, k ≠ 272 → ω k = μ k) → (∀ c : Nat, c < 26 → ω 272 c = sumN (fun t => cntW R (r t) c) 3) → (∀ c : Nat, c < 26 → sumN (fun t => cntW R (r t) c) 3 ≤ H c) → Q 1 ω)
    (hq0 : ∀ ω : xM, (∀ k, k ≠ 272 → ω k = μ k) → (∀ c : Nat, c < 26 → ω 272 c = sumN (fun t => cntW R (r t) c) 3) → ¬ (∀ c : Nat, c < 26 → sumN (fun t => cntW R (r t) c) 3 ≤ H c) → Q 0 ω) : tX11_addUp μ Q := by
  have bW := hR.W
  have cr : ∀ t, t < 3 → ∀ c, 0 ≤ cntW R (r t) c ∧ cntW R (r t) c ≤ 6 := fun t ht c => cntW_rng hR (hr t ht).2 c
  have sr : ∀ n, n ≤ 3 → ∀ c : Int, 0 ≤ sumN (fun t => cntW R (r t) c) n ∧ sumN (fun t => cntW R (r t) c) n ≤ 6 * n := fun n hn c => by
    have a := sumN_le (f := fun _ => 0) (g := fun t => cntW R (r t) c) n (fun t ht => (cr t (by omega) c).1)
    have b := sumN_le (f := fun t => cntW R (r t) c) (g := fun _ => 6) n (fun t ht => (cr t (by omega) c).2)
    rw [sumN_k] at a b
    omega
  intro _
  refine up1 (n := 26) (fun i ν => ν = fillM μ 272 i.toNat 0) (by omega) (fillM_zero μ 272 0).symm ?_
  rintro i ν K i0 i1 rfl _ hK
  refine ⟨⟨by omega, by omega⟩, fun c => ?_, fun c => ⟨⟨i0, by omega⟩, wl fun _ => hK _ (by omega) (by rw [fillM_succ, show (i + 1).toNat = i.toNat + 1 by omega])⟩⟩
  rw [show i.toNat = 26 by omega]
  refine up1 (n := 3) (fun t ξ => (∀ k, k ≠ 272 → ξ k = μ k) ∧ (∀ c : Nat, c < 26 → ξ 272 c = sumN (fun t => cntW R (r t) c) t.toNat)) (by omega) ⟨fun k hk => by funext j; simp [fillM, hk], fun c hc => by simp [fillM, hc, sumN]⟩ ?_
  rintro t ξ K t0 t1 ⟨x1, x2⟩ _ hK
  obtain ⟨n, rfl⟩ : ∃ n : Nat, t = n := ⟨t.toNat, by omega⟩
  rw [Int.toNat_natCast] at x2
  have e3 : ξ 263 = R := (x1 263 (by omega)).trans e
  refine ⟨⟨by omega, by omega⟩, fun d => ?_, fun d => ⟨⟨t0, by omega⟩, ?_⟩⟩
  · have en : n = 3 := by omega
    rw [en] at x2
    refine rd2b (n := 26) (fun c a => (a = 1 ∧ ∀ c' : Nat, (c' : Int) < c → sumN (fun t => cntW R (r t) c') 3 ≤ H c') ∨ (a = 0 ∧ ¬ ∀ c' : Nat, c' < 26 → sumN (fun t => cntW R (r t) c') 3 ≤ H c')) (by omega) (Or.inl ⟨rfl, fun c' hc => by omega⟩) ?_
    rintro c a K2 c0 c1 ha hK2
    obtain ⟨m, rfl⟩ : ∃ m : Nat, c = m := ⟨c.toNat, by omega⟩
    refine ⟨⟨by omega, by omega⟩, fun d2 => ?_, fun d2 => ?_⟩
    · rcases ha with ⟨rfl, ha⟩ | ⟨rfl, ha⟩
      · exact ⟨Or.inr rfl, hq1 ξ x1 x2 (fun c' hc => ha c' (by omega))⟩
      · exact ⟨Or.inl rfl, hq0 ξ x1 x2 ha⟩
    · rw [Int.toNat_natCast, x2 m (by omega), x1 273 (by omega), hH m (by omega)]
      rcases ha with ⟨rfl, ha⟩ | ⟨rfl, ha⟩
      · refine ⟨⟨by omega, by omega⟩, fun z => absurd z (by decide), fun _ => ⟨⟨by omega, by omega⟩, fun z => hK2 _ (by omega) (Or.inr ⟨rfl, fun y => ?_⟩), fun z => hK2 _ (by omega) (Or.inl ⟨rfl, fun c' hc => ?_⟩)⟩⟩
        · have := y m (by omega); omega
        · by_cases q : c' = m
          · subst q; omega
          · exact ha c' (by omega)
      · exact ⟨⟨by omega, by omega⟩, fun _ => hK2 _ (by omega) (Or.inr ⟨rfl, ha⟩), fun z => absurd rfl z⟩
  · have nl : n < 3 := by omega
    have rt := hr n nl
    have ex : ξ 275 n = (r n : Nat) := by rw [x1 275 (by omega)]; exact rt.1
    have wl24 := domF_le hR rt.2
    rw [Int.toNat_natCast, ex]
    have nn : ((n : Int) + 1).toNat = n + 1 := by omega
    refine ⟨fun z => hK ξ (by omega) ⟨x1, fun c hc => ?_⟩, fun z => ?_⟩
    · rw [nn, x2 c hc]
      simp only [sumN]
      rw [show r n = 24 by omega, cntW_24]; omega
    · have ww : ((r n : Nat) : Int) < R 3 := rt.2.resolve_right (by omega)
      have bl := hR.len ww
      refine up1 (n := R (7 + r n)) (fun j ω => (∀ k, k ≠ 272 → ω k = μ k) ∧ (∀ c : Nat, c < 26 → ω 272 c = sumN (fun t => cntW R (r t) c) n + cntL R (r n) j.toNat c)) (by omega) ⟨x1, fun c hc => by rw [x2 c hc]; simp [cntL]⟩ ?_
      rintro j ω K3 j0 j1 ⟨y1, y2⟩ _ hK3
      have f3 : ω 263 = R := (y1 263 (by omega)).trans e
      have ey : ω 275 n = (r n : Nat) := by rw [y1 275 (by omega)]; exact rt.1
      rw [ey, f3, show (7 + ((r n : Nat) : Int)).toNat = 7 + r n by omega]
      refine ⟨⟨by omega, by omega⟩, ⟨by omega, by omega⟩, ⟨by omega, by omega⟩, fun d2 => hK ω (by omega) ⟨y1, fun c hc => ?_⟩, fun d2 => r_letterAt f3 hR ⟨by omega, ww⟩ j0 (by rw [Int.toNat_natCast]; omega) (fun _ _ => ?_)⟩
      · rw [nn, y2 c hc, show j.toNat = (R (7 + r n)).toNat by omega]
        simp only [sumN, cntW]
        rw [if_neg (by omega)]
      · rw [Int.toNat_natCast]
        have bx := hR.let (w := r n) (i := j.toNat) ww (by omega)
        have yx := y2 (R (31 + 6 * r n + j.toNat) - 97).toNat (by omega)
        have s3 := sr n (by omega) ((R (31 + 6 * r n + j.toNat) - 97).toNat : Nat)
        have cl := cntL_rng R (r n) ((R (31 + 6 * r n + j.toNat) - 97).toNat : Nat) j.toNat
        refine ⟨⟨by omega, by omega⟩, ⟨by omega, by omega⟩, wl fun _ => hK3 _ (by omega) ⟨fun k hk => ?_, fun c hc => ?_⟩⟩
        · rw [← y1 k hk]; funext j2; exact wi_cell hk
        · rw [show (j + 1).toNat = j.toNat + 1 by omega]
          simp only [cntL]
          by_cases q : c = (R (31 + 6 * r n + j.toNat) - 97).toNat
          · subst q; rw [wi_self, yx, if_pos (by omega)]; omega
          · rw [wi_place q, y2 c hc, if_neg (by omega)]; omega
theorem r_lettersOf {μ : xM} {R : Nat → Int} {r : Nat → Nat} {Q : Int → xM → Prop} (e : μ 263 = R) (hR : okR R) (hr : tri R r μ) (hq : Q (sumN (fun t => lnF R (r t)) 3) μ) : tX11_lettersOf μ Q := by
  have bW := hR.W
  intro _
  refine rd2b (n := 3) (fun t s => s = sumN (fun t => lnF R (r t)) t.toNat ∧ 0 ≤ s ∧ s ≤ 6 * t) (by omega) ⟨rfl, by omega, by omega⟩ ?_
  rintro t s K t0 t1 ⟨rfl, s0, s1⟩ hK
  obtain ⟨n, rfl⟩ : ∃ n : Nat, t = n := ⟨t.toNat, by omega⟩
  rw [Int.toNat_natCast] at s0 s1 ⊢
  refine ⟨⟨by omega, by omega⟩, fun d => ⟨⟨by omega, by omega⟩, ?_⟩, fun d => ⟨⟨t0, by omega⟩, ?_⟩⟩
  · rw [show n = 3 by omega]; exact hq
  · have rt := hr n (by omega)
    have ln := lnF_rng hR rt.2
    have w24 := domF_le hR rt.2
    have nn : ((n : Int) + 1).toNat = n + 1 := by omega
    rw [rt.1]
    refine ⟨fun z => hK _ (by omega) ⟨?_, by omega, by omega⟩, fun z => ⟨⟨by omega, by omega⟩, hK _ (by omega) ?_⟩⟩
    · rw [nn]; simp only [sumN]; unfold lnF; rw [if_pos (show r n = 24 by omega)]
    · rw [show (7 + ((r n : Nat) : Int)).toNat = 7 + r n by omega, nn, e]
      have el : lnF R (r n) = R (7 + r n) := by unfold lnF; rw [if_neg (by omega)]
      simp only [sumN]
      rw [el]
      exact ⟨rfl, by omega, by omega⟩
theorem r_worthOf {μ : xM} {R : Nat → Int} {r : Nat → Nat} {Q : Int → xM → Prop} (e : μ 263 = R) (hR : okR R) (hr : tri R r μ) (hq : Q (sumN (fun t => vlF R (r t)) 3) μ) : tX11_worthOf μ Q := by
  have bW := hR.W
  intro _
  refine rd2b (n := 3) (fun t s => s = sumN (fun t => vlF R (r t)) t.toNat ∧ 0 ≤ s ∧ s ≤ 99 * t) (by omega) ⟨rfl, by omega, by omega⟩ ?_
  rintro t s K t0 t1 ⟨rfl, s0, s1⟩ hK
  obtain ⟨n, rfl⟩ : ∃ n : Nat, t = n := ⟨t.toNat, by omega⟩
  rw [Int.toNat_natCast] at s0 s1 ⊢
  refine ⟨⟨by omega, by omega⟩, fun d => ⟨⟨by omega, by omega⟩, ?_⟩, fun d => ⟨⟨t0, by omega⟩, ?_⟩⟩
  · rw [show n = 3 by omega]; exact hq
  · have rt := hr n (by omega)
    have ln := vlF_rng hR rt.2
    have w24 := domF_le hR rt.2
    have nn : ((n : Int) + 1).toNat = n + 1 := by omega
    rw [rt.1]
    refine ⟨fun z => hK _ (by omega) ⟨?_, by omega, by omega⟩, fun z => ⟨⟨by omega, by omega⟩, hK _ (by omega) ?_⟩⟩
    · rw [nn]; simp only [sumN]; unfold vlF; rw [if_pos (show r n = 24 by omega)]
    · rw [show (175 + ((r n : Nat) : Int)).toNat = 175 + r n by omega, nn, e]
      have el : vlF R (r n) = R (175 + r n) := by unfold vlF; rw [if_neg (by omega)]
      simp only [sumN]
      rw [el]
      exact ⟨rfl, by omega, by omega⟩
def oneF (w : Nat) : Int := if w = 24 then 0 else 1
theorem r_wordsOf {μ : xM} {R : Nat → Int} {r : Nat → Nat} {Q : Int → xM → Prop} (hR : okR R) (hr : tri R r μ) (hq : Q (sumN (fun t => oneF (r t)) 3) μ) : tX11_wordsOf μ Q := by
  have bW := hR.W
  intro _
  refine rd2b (n := 3) (fun t s => s = sumN (fun t => oneF (r t)) t.toNat ∧ 0 ≤ s ∧ s ≤ t) (by omega) ⟨rfl, by omega, by omega⟩ ?_
  rintro t s K t0 t1 ⟨rfl, s0, s1⟩ hK
  obtain ⟨n, rfl⟩ : ∃ n : Nat, t = n := ⟨t.toNat, by omega⟩
  rw [Int.toNat_natCast] at s0 s1 ⊢
  refine ⟨⟨by omega, by omega⟩, fun d => ⟨⟨by omega, by omega⟩, ?_⟩, fun d => ⟨⟨t0, by omega⟩, ?_⟩⟩
  · rw [show n = 3 by omega]; exact hq
  · have rt := hr n (by omega)
    have w24 := domF_le hR rt.2
    have nn : ((n : Int) + 1).toNat = n + 1 := by omega
    rw [rt.1]
    refine ⟨fun z => hK _ (by omega) ⟨?_, by omega, by omega⟩, fun z => hK _ (by omega) ⟨?_, by omega, by omega⟩⟩
    · rw [nn]; simp only [sumN]; unfold oneF; rw [if_pos (show r n = 24 by omega)]
    · rw [nn]; simp only [sumN]; unfold oneF; rw [if_neg (show ¬ r n = 24 by omega)]
theorem r_keepRow {μ : xM} {Q : xM → Prop} (hq : ∀ ω : xM, (∀ k, k ≠ 274 → ω k = μ k) → (∀ t, t < 3 → ω 274 t = μ 275 t) → Q ω) : tX11_keepRow μ Q := by
  intro _
  refine up1 (n := 3) (fun i ν => (∀ k, k ≠ 274 → ν k = μ k) ∧ ∀ t : Nat, (t : Int) < i → ν 274 t = μ 275 t) (by omega) ⟨fun _ _ => rfl, fun t ht => by omega⟩ ?_
  rintro i ν K i0 i1 ⟨a, b⟩ _ hK
  refine ⟨⟨by omega, by omega⟩, fun d => hq ν a (fun t ht => b t (by omega)), fun d => ⟨⟨i0, by omega⟩, wl fun _ => hK _ (by omega) ⟨fun k hk => ?_, fun t ht => ?_⟩⟩⟩
  · rw [← a k hk]; funext j; exact wi_cell hk
  · by_cases q : t = i.toNat
    · subst q; rw [wi_self, a 275 (by omega)]
    · rw [wi_place q]; exact b t (by omega)
/-! rows of three -/
def rw1 (a : Nat) : List Nat := if a = 24 then [] else [a]
def rw2 (a b : Nat) : List Nat := if a = 24 then [] else if b = 24 then [a] else [a, b]
def rw3 (a b c : Nat) : List Nat := if a = 24 then [] else if b = 24 then [a] else if c = 24 then [a, b] else [a, b, c]
def r3 (a b c : Nat) : Nat → Nat := fun t => if t = 0 then a else if t = 1 then b else c
theorem rw3_all {R : Nat → Int} {a b c : Nat} (h1 : a ≤ b) (h2 : b ≤ c) (h3 : c ≤ 24) : (∀ x : Int, sumN (fun t => cntW R (r3 a b c t) x) 3 = needL R (rw3 a b c) x) ∧ sumN (fun t => lnF R (r3 a b c t)) 3 = lenL R (rw3 a b c) ∧ sumN (fun t => vlF R (r3 a b c t)) 3 = valL R (rw3 a b c) ∧ sumN (fun t => oneF (r3 a b c t)) 3 = (rw3 a b c).length ∧ (∀ t, t < 3 → r3 a b c t = (rw3 a b c).getD t 24) := by
  have s3 : ∀ f : Nat → Int, sumN f 3 = f 0 + f 1 + f 2 := fun f => by simp only [sumN]; omega
  have q0 : r3 a b c 0 = a := rfl
  have q1 : r3 a b c 1 = b := rfl
  have q2 : r3 a b c 2 = c := rfl
  have g3 : ∀ row : List Nat, a = row.getD 0 24 → b = row.getD 1 24 → c = row.getD 2 24 → ∀ t, t < 3 → r3 a b c t = row.getD t 24 := fun row p0 p1 p2 t ht => by
    rcases (show t = 0 ∨ t = 1 ∨ t = 2 by omega) with rfl | rfl | rfl
    · exact p0
    · exact p1
    · exact p2
  simp only [s3, q0, q1, q2]
  unfold rw3
  by_cases ea : a = 24
  · have eb : b = 24 := by omega
    have ec : c = 24 := by omega
    rw [if_pos ea]
    refine ⟨fun x => by rw [ea, eb, ec, cntW_24]; simp [needL], by rw [ea, eb, ec]; simp [lnF, lenL], by rw [ea, eb, ec]; simp [vlF, valL], by rw [ea, eb, ec]; simp [oneF], g3 _ (by simpa using ea) (by simpa using eb) (by simpa using ec)⟩
  · rw [if_neg ea]
    by_cases eb : b = 24
    · have ec : c = 24 := by omega
      rw [if_pos eb]
      refine ⟨fun x => by rw [eb, ec, cntW_24]; simp [needL], by rw [eb, ec]; simp [lnF, lenL, ea], by rw [eb, ec]; simp [vlF, valL, ea], by rw [eb, ec]; simp [oneF, ea], g3 _ (by simp) (by simpa using eb) (by simpa using ec)⟩
    · rw [if_neg eb]
      by_cases ec : c = 24
      · rw [if_pos ec]
        refine ⟨fun x => by rw [ec, cntW_24]; simp [needL], by rw [ec]; simp [lnF, lenL, ea, eb], by rw [ec]; simp [vlF, valL, ea, eb], by rw [ec]; simp [oneF, ea, eb], g3 _ (by simp) (by simp) (by simpa using ec)⟩
      · rw [if_neg ec]
        refine ⟨fun x => by simp [needL]; omega, by simp [lnF, lenL, ea, eb, ec]; omega, by simp [vlF, valL, ea, eb, ec]; omega, by simp [oneF, ea, eb, ec], g3 _ (by simp) (by simp) (by simp)⟩
