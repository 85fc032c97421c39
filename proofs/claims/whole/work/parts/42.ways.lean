/-! the reference's rows -/
def rowP (R : Nat → Int) (set : Int) : Prop := ∃ p, rowS R set (R 4).toNat = some p ∧ p.1 = R (7 + (R 315).toNat) + R 6 - 1
theorem r_mayBe {μ : xM} {set : Int} {Q : Int → xM → Prop} (h : iOpen μ) (hs : 1 ≤ μ 263 6) (h0 : 0 ≤ set) (h1 : set < 256)
    (hq : ∀ r ν, (∀ k, k ≠ 273 → ν k = μ k) → (r = 1 ∧ rowP (μ 263) set ∨ r = 0 ∧ ¬ rowP (μ 263) set) → Q r ν) : tX11_mayBeThose set μ Q := by
  have bN := h.2.1.N
  have bW := h.2.1.W
  have bS := h.2.1.S
  have s0 : 0 ≤ μ 263 315 ∧ μ 263 315 < μ 263 3 := h.2.1.see (i := 0) (by omega)
  have bl := h.2.1.len (w := (μ 263 315).toNat) (by omega)
  intro _ _
  rw [show (7 + μ 263 315).toNat = 7 + (μ 263 315).toNat by omega]
  refine ⟨⟨by omega, by omega⟩, ?_⟩
  refine up1 (n := 26) (fun i ν => ν = fillM μ 273 i.toNat 0) (by omega) (fillM_zero μ 273 0).symm ?_
  rintro i ν K i0 i1 rfl _ hK
  refine ⟨⟨by omega, by omega⟩, fun c => ?_, fun c => ⟨⟨i0, by omega⟩, wl fun _ => hK _ (by omega) (by rw [fillM_succ, show (i + 1).toNat = i.toNat + 1 by omega])⟩⟩
  rw [show i.toNat = 26 by omega]
  refine up1 (n := μ 263 (7 + (μ 263 315).toNat)) (fun i ν => (∀ k, k ≠ 273 → ν k = μ k) ∧ (∀ c : Nat, c < 26 → ν 273 c = cntL (μ 263) (μ 263 315).toNat i.toNat c ∧ 0 ≤ ν 273 c ∧ ν 273 c ≤ i)) (by omega) ⟨fun k hk => by funext j; simp [fillM, hk], fun c hc => by simp [fillM, hc, cntL]⟩ ?_
  rintro i ν K i0 i1 ⟨p1, p2⟩ _ hK
  have e6 : ν 263 = μ 263 := p1 263 (by omega)
  rw [e6]
  refine ⟨⟨by omega, by omega⟩, fun c => ?_, fun c => r_letterAt e6 h.2.1 s0 i0 (by omega) (fun _ _ => ?_)⟩
  · have ei : i = μ 263 (7 + (μ 263 315).toNat) := by omega
    refine up2b (n := μ 263 4) (fun g n ω => (∀ k, k ≠ 273 → ω k = μ k) ∧ ∃ L, rowS (μ 263) set g.toNat = some (n, L) ∧ 0 ≤ n ∧ n ≤ g ∧ n ≤ μ 263 (7 + (μ 263 315).toNat) + μ 263 6 - 1 ∧ ∀ c : Nat, c < 26 → ω 273 c = L c) (by omega) ⟨p1, _, rfl, by omega, by omega, by omega, fun c hc => by rw [← ei]; exact (p2 c hc).1⟩ ?_
    rintro g n ω K g0 g1 ⟨f1, L, r1, n0, n1, n2, f2⟩ hr hK
    have e3 : ω 263 = μ 263 := f1 263 (by omega)
    have e7 : ω 267 = μ 267 := f1 267 (by omega)
    rw [e3, e7]
    have bad : g < μ 263 4 → rowS (μ 263) set (g.toNat + 1) = none → ¬ rowP (μ 263) set := by
      rintro q z ⟨p, y, _⟩
      rw [rowS_none z (μ 263 4).toNat (by omega)] at y
      exact absurd y (by simp)
    refine ⟨⟨by omega, by omega⟩, fun c => ⟨⟨by omega, by omega⟩, ⟨by omega, by omega⟩, fun d => hq 0 ω f1 (Or.inr ⟨rfl, ?_⟩), fun d => hq 1 ω f1 (Or.inl ⟨rfl, (n, L), by rw [show (μ 263 4).toNat = g.toNat by omega]; exact r1, d⟩)⟩, fun c => ⟨fun d => ⟨⟨by omega, by omega⟩, ⟨by omega, by omega⟩, fun e => ⟨⟨by omega, by omega⟩, ?_, ?_⟩, fun e => hq 0 ω f1 (Or.inr ⟨rfl, ?_⟩)⟩, fun d => hK _ _ (by omega) ⟨f1, L, ?_, n0, by omega, n2, f2⟩⟩⟩
    · rintro ⟨p, y, y2⟩
      rw [show (μ 263 4).toNat = g.toNat by omega, r1, Option.some.injEq] at y
      rw [← y] at y2
      exact d y2
    · intro f
      rw [show (295 + g).toNat = 295 + g.toNat by omega, show (315 + (n - μ 263 (7 + (μ 263 315).toNat) + 1) - 1).toNat = 315 + (n - μ 263 (7 + (μ 263 315).toNat)).toNat by omega, show (315 + (n - μ 263 (7 + (μ 263 315).toNat) + 1)).toNat = 315 + (n - μ 263 (7 + (μ 263 315).toNat) + 1).toNat by omega]
      have bb := b01 (g := g) (s := set) g0 (by omega) h0 h1
      have d : xAnd (xShr set g) 1 = 1 := by omega
      have t0 := h.2.1.see (i := (n - μ 263 (7 + (μ 263 315).toNat)).toNat) (by omega)
      have t1 := h.2.1.see (i := (n - μ 263 (7 + (μ 263 315).toNat) + 1).toNat) (by omega)
      have eb : μ 267 ((24 * μ 263 (315 + (n - μ 263 (7 + (μ 263 315).toNat)).toNat) + μ 263 (315 + (n - μ 263 (7 + (μ 263 315).toNat) + 1).toNat)).toNat) = byF (μ 263) (μ 263 (315 + (n - μ 263 (7 + (μ 263 315).toNat)).toNat)).toNat (μ 263 (315 + (n - μ 263 (7 + (μ 263 315).toNat) + 1).toNat)).toNat := by
        rw [← (h.2.2.2.2.2.1 (μ 263 (315 + (n - μ 263 (7 + (μ 263 315).toNat)).toNat)).toNat (μ 263 (315 + (n - μ 263 (7 + (μ 263 315).toNat) + 1).toNat)).toNat (by omega) (by omega)).1]
        congr 1; omega
      rw [eb]
      have rs : rowS (μ 263) set (g.toNat + 1) = (if n - μ 263 (7 + (μ 263 315).toNat) + 1 < μ 263 6 ∧ byF (μ 263) (μ 263 (315 + (n - μ 263 (7 + (μ 263 315).toNat)).toNat)).toNat (μ 263 (315 + (n - μ 263 (7 + (μ 263 315).toNat) + 1).toNat)).toNat = μ 263 (295 + g.toNat) then some (n + 1, L) else none) := by
        simp only [rowS]
        rw [r1]
        simp only [Option.bind_some, Int.toNat_of_nonneg g0]
        rw [if_pos d, if_neg (by omega)]
      refine ⟨⟨by omega, by omega⟩, ⟨by omega, by omega⟩, ⟨by omega, by omega⟩, fun z => hK _ _ (by omega) ⟨f1, L, ?_, by omega, by omega, by omega, f2⟩, fun z => hq 0 ω f1 (Or.inr ⟨rfl, bad (by omega) ?_⟩)⟩
      · rw [show (g + 1).toNat = g.toNat + 1 by omega, rs, if_pos ⟨by omega, z⟩]
      · rw [rs, if_neg (fun y => z y.2)]
    · intro f
      rw [show (295 + g).toNat = 295 + g.toNat by omega]
      have bb := b01 (g := g) (s := set) g0 (by omega) h0 h1
      have d : xAnd (xShr set g) 1 = 1 := by omega
      have bx := h.2.1.fst (g := g.toNat) (by omega)
      have fx := f2 (μ 263 (295 + g.toNat)).toNat (by omega)
      rw [Int.toNat_of_nonneg bx.1] at fx
      have rs : rowS (μ 263) set (g.toNat + 1) = (if 1 ≤ L (μ 263 (295 + g.toNat)) then some (n + 1, fun c => L c - if c = μ 263 (295 + g.toNat) then 1 else 0) else none) := by
        simp only [rowS]
        rw [r1]
        simp only [Option.bind_some, Int.toNat_of_nonneg g0]
        rw [if_pos d, if_pos (by omega)]
      have lo : -2147483648 < ω 273 (μ 263 (295 + g.toNat)).toNat ∨ True := Or.inr trivial
      have cl : ∀ (g : Nat) (p : Int × (Int → Int)), rowS (μ 263) set g = some p → ∀ c, 0 ≤ p.2 c := by
        intro g
        induction g with
        | zero =>
          intro p hp c
          simp only [rowS, Option.some.injEq] at hp
          rw [← hp]
          have : ∀ n : Nat, 0 ≤ cntL (μ 263) (μ 263 315).toNat n c := by
            intro n
            induction n with
            | zero => simp [cntL]
            | succ n ih => simp only [cntL]; split <;> omega
          exact this _
        | succ g ih =>
          intro p hp c
          simp only [rowS] at hp
          cases hq : rowS (μ 263) set g with
          | none => rw [hq] at hp; simp at hp
          | some q =>
            rw [hq] at hp
            simp only [Option.bind_some] at hp
            have iq := ih q hq
            split at hp
            · split at hp
              · split at hp
                · rename_i a1 a2 a3
                  simp only [Option.some.injEq] at hp
                  rw [← hp]
                  show 0 ≤ q.2 c - _
                  have := iq c
                  split
                  · rename_i a4; rw [a4]; omega
                  · omega
                · simp at hp
              · split at hp
                · simp only [Option.some.injEq] at hp
                  rw [← hp]; exact iq c
                · simp at hp
            · simp only [Option.some.injEq] at hp
              rw [← hp]; exact iq c
      have lx : 0 ≤ L (μ 263 (295 + g.toNat)) := cl _ _ r1 _
      have hx := (hr.i (k := 273) (j := (μ 263 (295 + g.toNat)).toNat) (by omega)).2
      refine ⟨⟨by omega, by omega⟩, ⟨by omega, by omega⟩, wl fun _ => ?_⟩
      rw [wi_self]
      have f1' : ∀ k, k ≠ 273 → wi ω 273 (μ 263 (295 + g.toNat)).toNat (ω 273 (μ 263 (295 + g.toNat)).toNat - 1) k = μ k := fun k hk => by rw [← f1 k hk]; funext j; exact wi_cell hk
      refine ⟨fun z => hK _ _ (by omega) ⟨f1', _, (by rw [show (g + 1).toNat = g.toNat + 1 by omega, rs, if_pos (by omega)]), by omega, by omega, by omega, fun c hc => ?_⟩, fun z => hq 0 _ f1' (Or.inr ⟨rfl, bad (by omega) (by rw [rs, if_neg (by omega)])⟩)⟩
      by_cases q : c = (μ 263 (295 + g.toNat)).toNat
      · subst q
        rw [wi_self, Int.toNat_of_nonneg bx.1, if_pos rfl, fx]
      · rw [wi_place q, if_neg (by omega), f2 c hc]; omega
    · rintro ⟨p, y, y2⟩
      have bb := b01 (g := g) (s := set) g0 (by omega) h0 h1
      have d : xAnd (xShr set g) 1 = 1 := by omega
      refine bad (by omega) ?_ ⟨p, y, y2⟩
      simp only [rowS]
      rw [r1]
      simp only [Option.bind_some, Int.toNat_of_nonneg g0]
      rw [if_pos d, if_neg (by omega), if_neg (by omega)]
    · rw [show (g + 1).toNat = g.toNat + 1 by omega]
      simp only [rowS]
      rw [r1]
      simp only [Option.bind_some, Int.toNat_of_nonneg g0]
      rw [if_neg (by omega)]
  · have bx := h.2.1.let (w := (μ 263 315).toNat) (i := i.toNat) (by omega) (by omega)
    have p2x := p2 (μ 263 (31 + 6 * (μ 263 315).toNat + i.toNat) - 97).toNat (by omega)
    refine ⟨⟨by omega, by omega⟩, ⟨by omega, by omega⟩, wl fun _ => hK _ (by omega) ⟨fun k hk => ?_, fun c hc => ?_⟩⟩
    · rw [← p1 k hk]; funext j; exact wi_cell hk
    · rw [show (i + 1).toNat = i.toNat + 1 by omega]
      simp only [cntL]
      have := p2 c hc
      by_cases q : c = (μ 263 (31 + 6 * (μ 263 315).toNat + i.toNat) - 97).toNat
      · subst q
        rw [wi_self, if_pos (by omega)]; omega
      · rw [wi_place q, if_neg (by omega)]; omega
/-! how many rows -/
noncomputable def cntP (P : Nat → Prop) : Nat → Int
  | 0 => 0
  | n + 1 => cntP P n + @ite _ (P n) (Classical.propDecidable _) 1 0
theorem cntP_y {P : Nat → Prop} {n : Nat} (h : P n) : cntP P (n + 1) = cntP P n + 1 := by simp [cntP, h]
theorem cntP_n {P : Nat → Prop} {n : Nat} (h : ¬ P n) : cntP P (n + 1) = cntP P n := by simp [cntP, h]
theorem cntP_rng (P : Nat → Prop) : ∀ n, 0 ≤ cntP P n ∧ cntP P n ≤ n := by
  intro n
  induction n with
  | zero => simp [cntP]
  | succ n ih =>
    by_cases h : P n
    · rw [cntP_y h]; omega
    · rw [cntP_n h]; omega
def wayP (R : Nat → Int) (who : Int) (set : Nat) : Prop := (who < 0 ∨ xAnd (xShr (set : Int) who) 1 = 1) ∧ rowP R set
noncomputable def wayR (R : Nat → Int) (who : Int) : Int := @ite _ (isFw R (-2)) (Classical.propDecidable _) (cntP (wayP R who) (pw (R 4)).toNat) 0
theorem s_rowsWith {μ : xM} {who : Int} {Q : Int → xM → Prop} (h : iOpen μ) (hs : 1 ≤ μ 263 6) (hw : who < 8)
    (hq : ∀ ν, (∀ k, k ≠ 248 → ν k = μ k) → Q (wayR (μ 263) who) ν) : tX6_rowsWith who μ Q := by
  have bN := h.2.1.N
  have bS := h.2.1.S
  have bW := h.2.1.W
  have e6 := h.2.2.1.1 6 (by omega)
  have pb := pw_le (n := μ 263 4) (by omega) (by omega)
  have sl := shl_pw (n := μ 263 4) (by omega) (by omega)
  intro _ _
  refine s_firstWrong h (fun r hr _ _ => ⟨fun c => ?_, fun c => ?_⟩)
  · have rr : r = -2 := by
      rcases hr with ⟨q, _⟩ | ⟨i, q, _⟩
      · exact q
      · omega
    subst rr
    have ok : ∀ i : Nat, (i : Int) < μ 263 6 → okSeen (μ 263) i := by
      rcases hr with ⟨_, q⟩ | ⟨i, q, _⟩
      · exact q
      · omega
    have sl2 := seen_len h.2.1 ok (μ 263 6 - 1).toNat (by omega)
    have ss := h.2.1.see (i := (μ 263 6 - 1).toNat) (by omega)
    have s0 : 0 ≤ μ 263 315 ∧ μ 263 315 < μ 263 3 := h.2.1.see (i := 0) (by omega)
    have bl := h.2.1.len (w := (μ 263 315).toNat) (by omega)
    have wr : wayR (μ 263) who = cntP (wayP (μ 263) who) (pw (μ 263 4)).toNat := by simp [wayR, hr]
    rw [wr] at hq
    rw [e6]
    refine ⟨⟨by omega, by omega⟩, k_seen h (by omega) (by omega) (fun _ _ => k_len h (fun _ _ _ => ?_) (fun z => absurd ss z))⟩
    rw [sl2, show (((μ 263 6 - 1).toNat : Nat) : Int) = μ 263 6 - 1 by omega]
    obtain ⟨len, hlen⟩ : ∃ l, l = μ 263 (7 + (μ 263 315).toNat) + (μ 263 6 - 1) := ⟨_, rfl⟩
    rw [← hlen]
    refine up2b (n := pw (μ 263 4)) (fun s n ω => (∀ k, k ≠ 248 → ω k = μ k) ∧ n = cntP (wayP (μ 263) who) s.toNat) (by omega) ⟨fun _ _ => rfl, rfl⟩ ?_
    rintro s n ω K s0' s1 ⟨f1, rfl⟩ hr2 hK
    have hO : iOpen ω := iOpen_a (sc1.a (fun k hk => f1 k (by rintro rfl; exact hk (by unfold scrK; omega)))) h
    have e4 : ω 39 4 = μ 263 4 := by rw [f1 39 (by omega)]; exact h.2.2.1.1 4 (by omega)
    have e3 : ω 263 = μ 263 := f1 263 (by omega)
    have cr := cntP_rng (wayP (μ 263) who) s.toNat
    have st : (s.toNat : Int) = s := Int.toNat_of_nonneg s0'
    have nx : (s + 1).toNat = s.toNat + 1 := by omega
    rw [e4, sl]
    have b71 : ∀ z : Int, ¬ z = 0 → xIn z → s < pw (μ 263 4) → (who < 0 ∨ xAnd (xShr s who) 1 = 1) → tX6_rowsWith_b71 who len (cntP (wayP (μ 263) who) s.toNat) s z ω Q K := by
      intro z hz hzi lt hwho _
      refine ⟨hzi, fun y => absurd y hz, fun _ => ⟨⟨by omega, by omega⟩, s_bitCount (fun _ _ => ⟨⟨by omega, by omega⟩, fun c => hK _ _ lt ⟨f1, ?_⟩, fun c => ?_⟩)⟩⟩
      · rw [nx, cntP_n]
        rintro ⟨_, p, y, y2⟩
        rw [st] at y
        have := rowS_cnt _ _ y
        rw [bcnt_eq (n := μ 263 4) (by omega) (by omega) s0' lt] at c
        omega
      · refine s_isRow hO (by rw [e3]; exact hs) s0' (by omega) (fun r ν g1 g2 _ _ => ?_)
        have g1' : ∀ k, k ≠ 248 → ν k = μ k := fun k hk => (g1 k hk).trans (f1 k hk)
        rw [e3] at g2
        rcases g2 with ⟨rfl, g2⟩ | ⟨rfl, g2⟩
        · refine ⟨fun y => absurd y (by decide), fun _ => hK _ _ lt ⟨g1', ?_⟩⟩
          rw [nx, cntP_y]
          refine ⟨by rw [st]; exact hwho, ?_⟩
          obtain ⟨p, hp⟩ := Option.isSome_iff_exists.1 g2
          refine ⟨p, by rw [st]; exact hp, ?_⟩
          have := rowS_cnt _ _ hp
          rw [bcnt_eq (n := μ 263 4) (by omega) (by omega) s0' lt] at c
          omega
        · refine ⟨fun _ => hK _ _ lt ⟨g1', ?_⟩, fun y => absurd y (by decide)⟩
          rw [nx, cntP_n]
          rintro ⟨_, p, y, y2⟩
          rw [st, g2] at y
          exact absurd y (by simp)
    refine ⟨⟨by omega, by omega⟩, fun c => ⟨⟨by omega, by omega⟩, ?_⟩, fun c => ⟨fun d _ => b71 1 (by decide) ⟨by decide, by decide⟩ (by omega) (Or.inl d), fun d => ⟨fun e _ => ⟨⟨by decide, by decide⟩, fun _ => hK _ _ (by omega) ⟨f1, ?_⟩, fun y => absurd rfl y⟩, fun e _ => b71 1 (by decide) ⟨by decide, by decide⟩ (by omega) (Or.inr e)⟩⟩⟩
    · rw [show s.toNat = (pw (μ 263 4)).toNat by omega]; exact hq ω f1
    · rw [nx, cntP_n]
      rintro ⟨y, _⟩
      rw [st] at y
      rcases y with y | y
      · exact d y
      · exact e y
  · have wr : wayR (μ 263) who = 0 := by
      have : ¬ isFw (μ 263) (-2) := fun z => by have := isFw_u hr z; omega
      simp [wayR, this]
    rw [wr] at hq
    exact hq μ (fun _ _ => rfl)
theorem r_waysWith {μ : xM} {who : Int} {Q : Int → xM → Prop} (h : iOpen μ) (hs : 1 ≤ μ 263 6) (hw : who < 8)
    (hq : ∀ ν, (∀ k, k ≠ 273 → ν k = μ k) → Q (wayR (μ 263) who) ν) : tX11_waysWith who μ Q := by
  have bN := h.2.1.N
  have pb := pw_le (n := μ 263 4) (by omega) (by omega)
  have sl := shl_pw (n := μ 263 4) (by omega) (by omega)
  intro _ _
  refine r_firstWrong h rfl (fun r hr _ _ => ⟨fun c => ?_, fun c => ?_⟩)
  · subst c
    have wr : wayR (μ 263) who = cntP (wayP (μ 263) who) (pw (μ 263 4)).toNat := by simp [wayR, hr]
    rw [wr] at hq
    refine up2b (n := pw (μ 263 4)) (fun s n ω => (∀ k, k ≠ 273 → ω k = μ k) ∧ n = cntP (wayP (μ 263) who) s.toNat) (by omega) ⟨fun _ _ => rfl, rfl⟩ ?_
    rintro s n ω K s0' s1 ⟨f1, rfl⟩ hr2 hK
    have hO : iOpen ω := iOpen_a (sc1.a (fun k hk => f1 k (by rintro rfl; exact hk (by unfold scrK; omega)))) h
    have e3 : ω 263 = μ 263 := f1 263 (by omega)
    have cr := cntP_rng (wayP (μ 263) who) s.toNat
    have st : (s.toNat : Int) = s := Int.toNat_of_nonneg s0'
    have nx : (s + 1).toNat = s.toNat + 1 := by omega
    rw [e3, sl]
    have go : ∀ lt : s < pw (μ 263 4), (who < 0 ∨ xAnd (xShr s who) 1 = 1) → tX11_mayBeThose s ω (fun r17 μ15 => (r17 = 0 ∨ r17 = 1) → xRan μ15 → (((r17 = 0 → K (cntP (wayP (μ 263) who) s.toNat + 0) (s + 1) μ15) ∧
  (r17 = 1 → K (cntP (wayP (μ 263) who) s.toNat + 1) (s + 1) μ15)))) := by
      intro lt hwho
      refine r_mayBe hO (by rw [e3]; exact hs) s0' (by omega) (fun r ν g1 g2 _ _ => ?_)
      have g1' : ∀ k, k ≠ 273 → ν k = μ k := fun k hk => (g1 k hk).trans (f1 k hk)
      rw [e3] at g2
      rcases g2 with ⟨rfl, g2⟩ | ⟨rfl, g2⟩
      · refine ⟨fun y => absurd y (by decide), fun _ => hK _ _ lt ⟨g1', ?_⟩⟩
        rw [nx, cntP_y]
        exact ⟨by rw [st]; exact hwho, by rw [st]; exact g2⟩
      · refine ⟨fun _ => hK _ _ lt ⟨g1', ?_⟩, fun y => absurd y (by decide)⟩
        rw [nx, cntP_n, Int.add_zero]
        rintro ⟨_, y⟩
        rw [st] at y
        exact g2 y
    refine ⟨⟨by omega, by omega⟩, fun c => ⟨⟨by omega, by omega⟩, ?_⟩, fun c => ⟨fun d => go (by omega) (Or.inl d), fun d => ⟨fun e => hK _ _ (by omega) ⟨f1, ?_⟩, fun e => go (by omega) (Or.inr e)⟩⟩⟩
    · rw [show s.toNat = (pw (μ 263 4)).toNat by omega]; exact hq ω f1
    · rw [nx, cntP_n, Int.add_zero]
      rintro ⟨y, _⟩
      rw [st] at y
      rcases y with y | y
      · exact d y
      · exact e y
  · have wr : wayR (μ 263) who = 0 := by
      have : ¬ isFw (μ 263) (-2) := fun z => c (isFw_u hr z)
      simp [wayR, this]
    rw [wr] at hq
    exact hq μ (fun _ _ => rfl)
theorem ways_fin {μ ν ω : xM} (hi : Inv μ) (h : iOpen μ) (f : ∀ k, k ≠ 248 → ν k = μ k) (g : ∀ k, k ≠ 273 → ω k = wi (wi (wi ν 0 18 0) 260 0 0) 260 11 0 k) : Inv ω := by
  have s : sc1 μ ν := fun k hk => f k (by rintro rfl; exact hk (by unfold scrK; omega))
  exact Inv_scr (a := 0) hi ((s.tr0 0).tt (fun k hk => g k (by rintro rfl; exact hk (by unfold scrK; omega)))) (by decide)
theorem ways_o {μ ν : xM} (h : iOpen μ) (f : ∀ k, k ≠ 248 → ν k = μ k) : iOpen (wi (wi (wi ν 0 18 0) 260 0 0) 260 11 0) :=
  iOpen_m (iOpen_a (sc1.a (fun k hk => f k (by rintro rfl; exact hk (by unfold scrK; omega)))) h) 0
/-- ways -/
theorem c_37 {sc : Int → Int} {i : Int} {μ : xM} (hi : Inv μ) : tl_37 sc i μ Inv := by
  have hK : ∀ a, a ≠ 4 → Inv (tr μ a) := fun a => Inv_tr hi
  rcases hi.os with h | h
  · have h14 := h.1
    have bS := h.2.1.S
    have e6 := h.2.2.1.1 6 (by omega)
    intro _
    refine k_open h (fun _ _ => ⟨fun _ => ⟨fun c => s_rowsWith h (by omega) (by decide) (fun ν f _ _ => s_granted (fun _ _ _ _ => ?_)), fun c => s_refused (fun _ _ _ _ => ?_)⟩, fun z => absurd z (by decide)⟩)
    · have e3 : ν 263 = μ 263 := f 263 (by omega)
      have e60 : ν 260 = μ 260 := f 260 (by omega)
      intro _
      refine s_good (fun _ _ => ⟨fun _ => ⟨fun _ _ _ => ⟨fun _ => r_waysWith (ways_o h f) (show 1 ≤ ν 263 6 by rw [e3]; omega) (by decide) (fun ω g _ _ _ _ => ⟨?_, ways_fin hi h f g⟩), fun z => absurd rfl z⟩, fun z => absurd (show ν 263 6 = 0 from z) (by rw [e3]; omega)⟩, fun z => absurd (show ν 260 14 = 0 from z) (by rw [e60, h14]; decide)⟩)
      show wayR (μ 263) (-1) = wayR (ν 263) (-1)
      rw [e3]
    · intro _
      refine s_good (fun _ _ => ⟨fun _ => ⟨fun z => absurd (show μ 263 6 = 0 by omega) z, fun _ _ _ => ⟨fun z => absurd z (by decide), fun _ => s_no (fun _ _ _ _ => ⟨rfl, K_no (hK 6 (by decide))⟩)⟩⟩, fun z => absurd (h14.symm.trans z) (by decide)⟩)
  · have h14 := h.1
    intro _
    refine k_shut h (fun _ _ => ⟨fun z => absurd z (by decide), fun _ => s_refused (fun _ _ _ _ => ?_)⟩)
    intro _
    exact s_good (fun _ _ => ⟨fun z => absurd h14 z, fun _ _ _ => ⟨fun z => absurd z (by decide), fun _ => s_no (fun _ _ _ _ => ⟨rfl, K_no (hK 1 (by decide))⟩)⟩⟩)
theorem c_38 {sc : Int → Int} {i : Int} {μ : xM} (hi : Inv μ) : tl_38 sc i μ Inv := by
  obtain ⟨w, ew⟩ : ∃ w, w = sc (i + 1) := ⟨_, rfl⟩
  unfold tl_38
  rw [← ew]
  have hK : ∀ a, a ≠ 4 → Inv (tr μ a) := fun a => Inv_tr hi
  rcases hi.os with h | h
  · have h14 := h.1
    have bS := h.2.1.S
    have bN := h.2.1.N
    have e6 := h.2.2.1.1 6 (by omega)
    intro _ _
    refine k_guest h (fun w0 w1 _ _ => ⟨fun _ => ⟨fun c => s_rowsWith h (by omega) (by omega) (fun ν f _ _ => s_granted (fun _ _ _ _ => ?_)), fun c => s_refused (fun _ _ _ _ => ?_)⟩, fun z => absurd z (by decide)⟩) (fun q _ _ => ⟨fun z => absurd z (by decide), fun _ => s_refused (fun _ _ _ _ => ?_)⟩)
    · have e3 : ν 263 = μ 263 := f 263 (by omega)
      have e60 : ν 260 = μ 260 := f 260 (by omega)
      intro _ _
      refine s_good (fun _ => r_guest (ways_o h f) (R := μ 263) e3 (fun _ _ _ _ => ⟨fun _ _ => ⟨fun _ => ⟨fun _ _ _ => ⟨fun _ => r_waysWith (ways_o h f) (show 1 ≤ ν 263 6 by rw [e3]; omega) (by omega) (fun ω g _ _ _ _ => ⟨?_, ways_fin hi h f g⟩), fun z => absurd rfl z⟩, fun z => absurd (show ν 263 6 = 0 from z) (by rw [e3]; omega)⟩, fun z => absurd (show ν 260 14 = 0 from z) (by rw [e60, h14]; decide)⟩, fun z => absurd z (by decide)⟩) (fun z => absurd ⟨w0, w1⟩ z))
      show wayR (μ 263) w = wayR (ν 263) w
      rw [e3]
    · intro _ _
      refine s_good (fun _ => r_guest (iOpen_m h _) (m_263 μ _) (fun _ _ _ _ => ⟨fun _ _ => ⟨fun _ => ⟨fun z => absurd (show μ 263 6 = 0 by omega) z, fun _ _ _ => ⟨fun z => absurd z (by decide), fun _ => s_no (fun _ _ _ _ => ⟨rfl, K_no (hK 6 (by decide))⟩)⟩⟩, fun z => absurd (h14.symm.trans z) (by decide)⟩, fun z => absurd z (by decide)⟩) (fun z => absurd ⟨w0, w1⟩ z))
    · intro _ _
      exact s_good (fun _ => r_guest (iOpen_m h _) (m_263 μ _) (fun a b => absurd ⟨a, b⟩ q) (fun _ _ _ => ⟨fun z => absurd z (by decide), fun _ => s_no (fun _ _ _ _ => ⟨rfl, K_no (hK 1 (by decide))⟩)⟩))
  · intro _ _
    refine k_guestS h (fun _ _ => ⟨fun z => absurd z (by decide), fun _ => s_refused (fun _ _ _ _ => ?_)⟩)
    intro _ _
    exact s_good (fun _ => r_guestS (iShut_m h _) (fun _ _ => ⟨fun z => absurd z (by decide), fun _ => s_no (fun _ _ _ _ => ⟨rfl, K_no (hK 1 (by decide))⟩)⟩))
