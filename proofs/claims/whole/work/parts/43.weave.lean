/-! the class's house holds the row R -/
def iHo (μ : xM) (R : Nat → Int) : Prop := okR R ∧ (∀ j : Nat, j < 7 → μ 39 j = R j)
  ∧ (∀ w : Nat, w < 24 → (w : Int) < R 3 → μ 40 w = R (7 + w) ∧ μ 41 w = R (175 + w) ∧ μ 68 w = R (199 + w) ∧ ∀ i : Nat, i < 6 → μ (43 + w) i = if (i : Int) < R (7 + w) then R (31 + 6 * w + i) - 97 else -1)
  ∧ (∀ i : Nat, i < 6 → μ 67 i = -1)
  ∧ (∀ g : Nat, (g : Int) < R 4 → μ 69 g = R (295 + g))
  ∧ (∀ i : Nat, (i : Int) < R 5 → μ 70 i = R (303 + i) ∧ μ 71 i = R (309 + i))
  ∧ (∀ i : Nat, (i : Int) < R 6 → μ 72 i = R (315 + i))
theorem iHo_c {μ ν : xM} {R : Nat → Int} (h : ∀ k, 39 ≤ k → k < 73 → ν k = μ k) (hi : iHo μ R) : iHo ν R := by
  unfold iHo at *
  rw [h 39 (by omega) (by omega), h 40 (by omega) (by omega), h 41 (by omega) (by omega), h 68 (by omega) (by omega), h 67 (by omega) (by omega), h 69 (by omega) (by omega), h 70 (by omega) (by omega), h 71 (by omega) (by omega), h 72 (by omega) (by omega)]
  refine ⟨hi.1, hi.2.1, fun w hw h2 => ?_, hi.2.2.2⟩
  rw [h (43 + w) (by omega) (by omega)]
  exact hi.2.2.1 w hw h2
theorem h_word {μ : xM} {R : Nat → Int} {w : Int} {Q : Int → xM → Prop} (h : iHo μ R) (h1 : wordF R w → Q 1 μ) (h0 : ¬ wordF R w → Q 0 μ) : tX2_isWord 39 w μ Q := by
  have a := h.2.1 3 (by omega)
  have b := h.1.W
  exact s_hWord (fun q => h1 ⟨q.1, by have := q.2; omega⟩) (fun q => h0 (fun z => q ⟨z.1, by have := z.2; omega, by have := z.2; omega⟩))
theorem h_good {μ : xM} {R : Nat → Int} {w : Int} {Q : Int → xM → Prop} (h : iHo μ R) (h1 : goodI R w → Q 1 μ) (h0 : ¬ goodI R w → Q 0 μ) : tX2_isGood 39 w μ Q := by
  have a3 := h.2.1 3 (by omega)
  have a1 := h.2.1 1 (by omega)
  have b := h.1.W
  have c := h.2.2.1 w.toNat
  refine s_hGood (fun q => h1 ?_) (fun q => h0 (fun z => q ?_))
  · obtain ⟨⟨q1, q2, q3⟩, q4, q5⟩ := q
    have c := c (by omega) (by omega)
    exact ⟨⟨q1, by omega⟩, by rw [← c.2.2.1]; exact q4, by rw [← c.1, ← a1]; exact q5⟩
  · obtain ⟨⟨q1, q2⟩, q4, q5⟩ := z
    have c := c (by omega) (by omega)
    refine ⟨⟨q1, by omega, by omega⟩, c.2.2.1.trans q4, ?_⟩
    show μ 40 w.toNat ≤ μ 39 1
    rw [c.1, a1]; exact q5
theorem h_len {μ : xM} {R : Nat → Int} {w : Int} {Q : Int → xM → Prop} (h : iHo μ R) (h1 : wordF R w → Q (R (7 + w.toNat)) μ) (h0 : ¬ wordF R w → Q 0 μ) : tX2_lengthOf 39 w μ Q := by
  have a3 := h.2.1 3 (by omega)
  have b := h.1.W
  refine s_hLen (fun q => ?_) (fun q => h0 (fun z => q ⟨z.1, by have := z.2; omega, by have := z.2; omega⟩))
  obtain ⟨q1, q2, q3⟩ := q
  have c := (h.2.2.1 w.toNat (by omega) (by omega)).1
  show Q (μ 40 w.toNat) μ
  rw [c]
  exact h1 ⟨q1, by omega⟩
theorem h_glyph {μ : xM} {R : Nat → Int} {w i : Int} {Q : Int → xM → Prop} (h : iHo μ R) (hw : wordF R w) (hi : 0 ≤ i) (hi2 : i < R (7 + w.toNat)) (h1 : Q (R (31 + 6 * w.toNat + i.toNat) - 97) μ) : tX2_glyphOf 39 w i μ Q := by
  have a3 := h.2.1 3 (by omega)
  have b := h.1.W
  obtain ⟨q1, q2⟩ := hw
  have bl := h.1.len (w := w.toNat) (by omega)
  refine s_hGlyph (fun q _ _ => ?_) (fun q => absurd ⟨⟨q1, by omega, by omega⟩, hi, by omega⟩ q)
  have c := (h.2.2.1 w.toNat (by omega) (by omega)).2.2.2 i.toNat (by omega)
  rw [if_pos (by omega)] at c
  show Q (μ (43 + w.toNat) i.toNat) μ
  rw [c]
  exact h1
theorem h_without {μ : xM} {R : Nat → Int} {v p w : Int} {Q : Int → xM → Prop} (h : iHo μ R) (hw : wordF R w) (hv : wordF R v) (hl : R (7 + v.toNat) = R (7 + w.toNat) + 1) (p0 : 0 ≤ p) (h1 : woF R v.toNat p.toNat w.toNat → Q 1 μ) (h0 : ¬ woF R v.toNat p.toNat w.toNat → Q 0 μ) : tX1_isWithout v p w μ Q := by
  have b := h.1.W
  have w0 := hw.1; have w1 := hw.2
  have bl := h.1.len (w := w.toNat) (by omega)
  intro _ _ _ _
  refine rd1 (n := R (7 + w.toNat)) (fun i => ∀ k : Nat, (k : Int) < i → R (31 + 6 * v.toNat + (if k < p.toNat then k else k + 1)) = R (31 + 6 * w.toNat + k)) (by omega) (fun k z => by omega) ?_
  intro i K i0 i1 hP hK
  refine h_len h (fun _ _ _ => ⟨⟨by omega, by omega⟩, fun c => h1 (fun k hk => hP k (by omega)), fun c => h_glyph h hw i0 (by omega) (fun _ _ => ?_)⟩) (fun z => absurd hw z)
  have nx : R (31 + 6 * v.toNat + (if i.toNat < p.toNat then i.toNat else i.toNat + 1)) = R (31 + 6 * w.toNat + i.toNat) → ∀ k : Nat, (k : Int) < i + 1 → R (31 + 6 * v.toNat + (if k < p.toNat then k else k + 1)) = R (31 + 6 * w.toNat + k) := by
    intro q k hk
    by_cases e : k = i.toNat
    · rw [e]; exact q
    · exact hP k (by omega)
  refine ⟨fun d => ⟨⟨by omega, by omega⟩, h_glyph h hv (by omega) (by omega) (fun _ _ => ?_)⟩, fun d => h_glyph h hv (by omega) (by omega) (fun _ _ => ?_)⟩
  · rw [if_neg (by omega)] at nx
    rw [show (i + 1).toNat = i.toNat + 1 by omega]
    refine ⟨fun e => hK (by omega) (nx (by omega)), fun e => h0 (fun z => e ?_)⟩
    have z := z i.toNat (by omega)
    rw [if_neg (by omega)] at z
    omega
  · rw [if_pos (by omega)] at nx
    refine ⟨fun e => hK (by omega) (nx (by omega)), fun e => h0 (fun z => e ?_)⟩
    have z := z i.toNat (by omega)
    rw [if_pos (by omega)] at z
    omega
noncomputable def wv1 (R : Nat → Int) (w v : Nat) : Int := if ((w : Int) < R 3 ∨ w = 24) ∧ (v : Int) < R 3 then wvF R w v else -1
theorem h_between {μ : xM} {R : Nat → Int} {w v : Int} {Q : Int → xM → Prop} (h : iHo μ R) (w0 : 0 ≤ w) (w1 : w < 24) (v0 : 0 ≤ v) (hq : Q (wv1 R w.toNat v.toNat) μ) : tX1_letterBetween w v μ Q := by
  have b := h.1.W
  have e2 := h.2.1 2 (by omega)
  intro _ _ _
  unfold wv1 at hq
  refine h_len h (fun hw _ _ => ?_) (fun hw _ _ => ⟨fun _ => ?_, fun z => absurd (by decide) z⟩)
  · have ww := hw.2
    have bl := h.1.len (w := w.toNat) (by omega)
    refine ⟨fun z => by omega, fun _ => h_len h (fun hv _ _ => ⟨⟨by omega, by omega⟩, fun hl => ?_, fun hl => ?_⟩) (fun hv _ _ => ⟨⟨by omega, by omega⟩, fun z => by omega, fun _ => ?_⟩)⟩
    · have vv := hv.2
      rw [if_pos ⟨Or.inl (by omega), by omega⟩, wvF, if_neg (by omega), if_pos hl] at hq
      refine rd1 (n := R (7 + w.toNat) + 1) (fun p => scanF (fun p => mayF R p (R (7 + v.toNat)) ∧ woF R v.toNat p w.toNat) (fun p => R (31 + 6 * v.toNat + p) - 97) (R (7 + v.toNat)).toNat 0 = scanF (fun p => mayF R p (R (7 + v.toNat)) ∧ woF R v.toNat p w.toNat) (fun p => R (31 + 6 * v.toNat + p) - 97) (R (7 + v.toNat) - p).toNat p.toNat) (by omega) (by simp) ?_
      intro p K p0 p1 hP hK
      rw [hP] at hq
      have no : p ≤ R (7 + w.toNat) → ¬ (mayF R p.toNat (R (7 + v.toNat)) ∧ woF R v.toNat p.toNat w.toNat) → K (p + 1) μ := by
        intro le q
        refine hK (by omega) ?_
        rw [hP, show (R (7 + v.toNat) - p).toNat = (R (7 + v.toNat) - (p + 1)).toNat + 1 by omega]
        rw [scanF_no (P := fun p => mayF R p (R (7 + v.toNat)) ∧ woF R v.toNat p w.toNat) q, show (p + 1).toNat = p.toNat + 1 by omega]
      have yes : p ≤ R (7 + w.toNat) → mayF R p.toNat (R (7 + v.toNat)) → tX1_letterBetween_b71 w v (R (7 + w.toNat)) p μ Q K := by
        intro le q _ _
        refine ⟨⟨by decide, by decide⟩, fun z => absurd z (by decide), fun _ => ⟨⟨by omega, by omega⟩, h_without h hw hv hl p0 (fun y _ _ => ⟨fun z => absurd z (by decide), fun _ => h_glyph h hv p0 (by omega) (fun _ _ => ?_)⟩) (fun y _ _ => ⟨fun _ => no le (fun z => y z.2), fun z => absurd z (by decide)⟩)⟩⟩
        rw [show (R (7 + v.toNat) - p).toNat = (R (7 + v.toNat) - (p + 1)).toNat + 1 by omega] at hq
        rw [scanF_yes (P := fun p => mayF R p (R (7 + v.toNat)) ∧ woF R v.toNat p w.toNat) ⟨q, y⟩] at hq
        exact hq
      have nay : p ≤ R (7 + w.toNat) → ¬ mayF R p.toNat (R (7 + v.toNat)) → tX1_letterBetween_b75 w v (R (7 + w.toNat)) p μ Q K := by
        intro le q _ _
        exact ⟨⟨by decide, by decide⟩, fun _ => no le (fun z => q z.1), fun z => absurd rfl z⟩
      rw [e2]
      refine ⟨⟨by omega, by omega⟩, fun c => ?_, fun c => ⟨fun d => yes (by omega) (Or.inr (Or.inl (by omega))), fun d => ⟨fun e => yes (by omega) (Or.inl e), fun e => ⟨fun f => nay (by omega) ?_, fun f => ⟨fun g => nay (by omega) ?_, fun g => yes (by omega) (Or.inr (Or.inr ⟨g, by omega⟩))⟩⟩⟩⟩⟩
      · rw [show (R (7 + v.toNat) - p).toNat = 0 by omega] at hq
        exact hq
      · rintro (z | z | ⟨_, z⟩)
        · exact e z
        · omega
        · omega
      · rintro (z | z | ⟨z, _⟩)
        · exact e z
        · omega
        · exact g z
    · have vv := hv.2
      rw [if_pos ⟨Or.inl (by omega), by omega⟩, wvF, if_neg (by omega), if_neg hl] at hq
      exact hq
    · rw [if_neg (fun z => hv ⟨v0, by omega⟩)] at hq
      exact hq
  · rw [if_neg (fun z => by have := z.1; unfold wordF at hw; omega)] at hq
    exact hq
/-! all words woven -/
def wovF (ν : xM) (R : Nat → Int) (v w : Nat) : Prop := ∀ w' v' : Nat, w' < 25 → v' < 24 → (v' < v ∨ (v' = v ∧ w' < w)) → ν (75 + w') v' = wv1 R w' v'
def in75 (k : Nat) : Prop := 75 ≤ k ∧ k < 100
theorem h_weave {μ : xM} {R : Nat → Int} {Q : xM → Prop} (h : iHo μ R) (hq : ∀ ν, (∀ k, ¬ in75 k → ν k = μ k) → wovF ν R 24 0 → tX1_settle ν (fun ω => xRan ω → Q ω)) : tX1_weave μ Q := by
  have b := h.1.W
  intro _
  refine up1 (n := 24) (fun v ν => (∀ k, ¬ in75 k → ν k = μ k) ∧ wovF ν R v.toNat 0) (by omega) ⟨fun _ _ => rfl, fun w' v' _ _ z => by omega⟩ ?_
  rintro v ν K v0 v1 ⟨f1, f2⟩ _ hK
  refine ⟨⟨by omega, by omega⟩, fun c => ?_, fun c => ?_⟩
  · rw [show v.toNat = 24 by omega] at f2
    exact hq ν f1 f2
  · refine up1 (n := 24) (fun w ω => (∀ k, ¬ in75 k → ω k = μ k) ∧ wovF ω R v.toNat w.toNat) (by omega) ⟨f1, f2⟩ ?_
    rintro w ω K2 w0 w1 ⟨g1, g2⟩ _ hK2
    have hh : iHo ω R := iHo_c (fun k _ _ => g1 k (by unfold in75; omega)) h
    have put : ∀ x, x = wv1 R w.toNat v.toNat → w ≤ 24 → (∀ k, ¬ in75 k → wi ω (75 + w.toNat) v.toNat x k = μ k) ∧ wovF (wi ω (75 + w.toNat) v.toNat x) R v.toNat (w.toNat + 1) := by
      intro x hx le
      refine ⟨fun k hk => ?_, fun w' v' a c d => ?_⟩
      · rw [← g1 k hk]; funext j; exact wi_cell (by unfold in75 at hk; omega)
      · by_cases e : w' = w.toNat ∧ v' = v.toNat
        · rw [e.1, e.2, wi_self, hx]
        · rw [← g2 w' v' a c (by omega)]
          by_cases e2 : w' = w.toNat
          · rw [e2]; exact wi_place (by omega)
          · exact wi_cell (by omega)
    have nxt : ∀ x, x = wv1 R 24 v.toNat → w = 24 → K (v + 1) (wi ω (75 + 24) v.toNat x) := by
      intro x hx e
      have p := put x (by rw [e]; exact hx) (by omega)
      rw [show w.toNat = 24 by omega] at p
      refine hK _ (by omega) ⟨p.1, fun w' v' a c d => p.2 w' v' a c (by omega)⟩
    refine ⟨⟨by omega, by omega⟩, fun c => ⟨⟨by omega, by omega⟩, h_len hh (fun hv _ _ => ⟨fun d => ⟨⟨v0, by omega⟩, wl fun _ => nxt _ ?_ (by omega)⟩, fun d => h_glyph hh hv (by omega) (by omega) (fun _ _ => ⟨⟨v0, by omega⟩, wl fun _ => nxt _ ?_ (by omega)⟩)⟩) (fun hv _ _ => ⟨fun d => ⟨⟨v0, by omega⟩, wl fun _ => nxt _ ?_ (by omega)⟩, fun d => absurd d (by decide)⟩)⟩, fun c => ⟨⟨w0, by omega⟩, ⟨by omega, by omega⟩, h_between hh w0 (by omega) v0 (fun _ _ => ⟨⟨v0, by omega⟩, wl fun _ => hK2 _ (by omega) ?_⟩)⟩⟩
    · have := hv.2
      rw [wv1, if_pos ⟨Or.inr rfl, by omega⟩, wvF, if_pos rfl, if_neg d]
    · have := hv.2
      rw [wv1, if_pos ⟨Or.inr rfl, by omega⟩, wvF, if_pos rfl, if_pos d]
      rfl
    · rw [wv1, if_neg (fun z => hv ⟨v0, by omega⟩)]
    · rw [show (w + 1).toNat = w.toNat + 1 by omega]
      exact put _ rfl (by omega)
