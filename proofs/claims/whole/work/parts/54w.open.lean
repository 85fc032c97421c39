/-! an inn open, whatever the nights say: while a call is under way -/
def iOpW (μ : xM) : Prop := μ 260 14 = 1 ∧ okR (μ 263) ∧ iHouse μ ∧ True ∧ iGrow μ
theorem iOpen.w {μ : xM} (h : iOpen μ) : iOpW μ := ⟨h.1, h.2.1, h.2.2.1, trivial, h.2.2.2.2⟩
theorem iOpW_c {μ ν : xM} (h14 : ν 260 14 = μ 260 14) (h : ∀ k, (39 ≤ k ∧ k < 209) ∨ k = 263 ∨ (267 ≤ k ∧ k < 271) → ν k = μ k) (hi : iOpW μ) : iOpW ν := by
  obtain ⟨a, b, c, _, e⟩ := hi
  refine ⟨h14.trans a, by rw [h 263 (by omega)]; exact b, ?_, trivial, iGrow_c (fun k _ _ => h k (by omega)) (fun k _ _ => h k (by omega)) (h 263 (by omega)) e⟩
  unfold iHouse at *
  rw [h 39 (by omega), h 40 (by omega), h 41 (by omega), h 68 (by omega), h 263 (by omega), h 67 (by omega), h 69 (by omega), h 70 (by omega), h 71 (by omega), h 72 (by omega)]
  refine ⟨c.1, fun w hw h2 => ?_, c.2.2⟩
  rw [h (43 + w) (by omega)]
  exact c.2.1 w hw h2
theorem iOpW_a {μ ν : xM} (s : asame μ ν) (hi : iOpW μ) : iOpW ν := iOpW_c (s 260 14 rfl) (fun k hk => s.row (by omega)) hi
theorem w_word {μ : xM} {w : Int} {Q : Int → xM → Prop} (h : iOpW μ) (h1 : wordF (μ 263) w → Q 1 μ) (h0 : ¬ wordF (μ 263) w → Q 0 μ) : tX2_isWord 39 w μ Q := by
  have a := h.2.2.1.1 3 (by omega)
  have b := h.2.1.W
  exact s_hWord (fun q => h1 ⟨q.1, by have := q.2; omega⟩) (fun q => h0 (fun z => q ⟨z.1, by have := z.2; omega, by have := z.2; omega⟩))
theorem w_val {μ : xM} {w : Int} {Q : Int → xM → Prop} (h : iOpW μ) (h1 : wordF (μ 263) w → Q (μ 263 (175 + w.toNat)) μ) (h0 : ¬ wordF (μ 263) w → Q 0 μ) : tX2_valueOf 39 w μ Q := by
  have b := h.2.1.W
  intro _ _
  refine w_word h (fun q => fun _ _ => ⟨fun z => absurd z (by decide), fun _ => ⟨⟨q.1, by have := q.2; omega⟩, ?_⟩⟩) (fun q => fun _ _ => ⟨fun _ => h0 q, fun z => absurd z (by decide)⟩)
  have c := (h.2.2.1.2.1 w.toNat (by have := q.1; have := q.2; omega) (by have := q.1; have := q.2; omega)).2.1
  show Q (μ 41 w.toNat) μ
  rw [c]
  exact h1 q
theorem w_guest {μ : xM} {g : Int} {Q : Int → xM → Prop} (h : iOpW μ) (h1 : 0 ≤ g → g < μ 263 4 → Q 1 μ) (h0 : ¬ (0 ≤ g ∧ g < μ 263 4) → Q 0 μ) : tX2_isGuest 39 g μ Q := by
  have a := h.2.2.1.1 4 (by omega)
  have b := h.2.1.N
  intro _ _
  refine ⟨fun c => h0 (by omega), fun c => ⟨fun d => h0 (by omega), fun d => ⟨fun e => h0 (by omega), fun e => h1 (by omega) (by omega)⟩⟩⟩
theorem w_first {μ : xM} {g : Int} {Q : Int → xM → Prop} (h : iOpW μ) (h1 : 0 ≤ g → g < μ 263 4 → Q (μ 263 (295 + g.toNat)) μ) (h0 : ¬ (0 ≤ g ∧ g < μ 263 4) → Q (-1) μ) : tX2_firstOf 39 g μ Q := by
  have b := h.2.1.N
  intro _ _
  refine w_guest h (fun q q2 => fun _ _ => ⟨fun z => absurd z (by decide), fun _ => ⟨⟨q, by omega⟩, ?_⟩⟩) (fun q => fun _ _ => ⟨fun _ => h0 q, fun z => absurd z (by decide)⟩)
  show Q (μ 69 g.toNat) μ
  rw [h.2.2.1.2.2.2.1 g.toNat (by omega)]
  exact h1 q q2
theorem w_likely {μ : xM} {g : Int} {Q : Int → xM → Prop} (h : iOpW μ) (q : 0 ≤ g) (q2 : g < μ 263 5) (h1 : Q (μ 263 (303 + g.toNat)) μ) : tX2_likelyOf 39 g μ Q := by
  have a := h.2.2.1.1 5 (by omega)
  have b := h.2.1.K
  intro _ _
  refine ⟨fun c => by omega, fun c => ⟨fun d => by omega, fun d => ⟨fun e => by omega, fun e => ⟨⟨q, by omega⟩, ?_⟩⟩⟩⟩
  show Q (μ 70 g.toNat) μ
  rw [(h.2.2.1.2.2.2.2.1 g.toNat (by omega)).1]
  exact h1
theorem w_weight {μ : xM} {g : Int} {Q : Int → xM → Prop} (h : iOpW μ) (q : 0 ≤ g) (q2 : g < μ 263 5) (h1 : Q (μ 263 (309 + g.toNat)) μ) : tX2_weightOf 39 g μ Q := by
  have a := h.2.2.1.1 5 (by omega)
  have b := h.2.1.K
  intro _ _
  refine ⟨fun c => by omega, fun c => ⟨fun d => by omega, fun d => ⟨fun e => by omega, fun e => ⟨⟨q, by omega⟩, ?_⟩⟩⟩⟩
  show Q (μ 71 g.toNat) μ
  rw [(h.2.2.1.2.2.2.2.1 g.toNat (by omega)).2]
  exact h1
theorem iOpW.up {μ : xM} (h : iOpW μ) {w i : Nat} (hw : w < 25) (hi : i < (upsF (μ 263) w).length) : μ (127 + w) i = (upsF (μ 263) w)[i] ∧ μ (153 + w) i = byF (μ 263) w (upsF (μ 263) w)[i] ∧ (upsF (μ 263) w)[i] < 24 ∧ 0 ≤ byF (μ 263) w (upsF (μ 263) w)[i] := by
  have q := (h.2.2.2.2.2.2.1 w hw).2 i hi
  have m := upsF_mem.1 (List.getElem_mem hi)
  exact ⟨q.1, q.2, m.1, m.2⟩
theorem w_wordAfter {R : Nat → Int} {a b c t v x : Int} {μ : xM} {Q : Int → xM → Prop} (hI : iOpW μ) (hR : μ 263 = R) (ha : k3 a) (hb : k3 b) (hc : k3 c) (hv : 0 ≤ v) (hv2 : v < 24)
    (h1 : byF R (pk a b c t).toNat v.toNat = x → Q (wt a b c t v) μ) (h0 : ¬ byF R (pk a b c t).toNat v.toNat = x → Q (-1) μ) : tX11_wordAfter (cd a b c) t v x μ Q := by
  subst hR
  have hp := pk_k3 (t := t) ha hb hc
  have e : μ 267 ((24 * pk a b c t + v).toNat) = byF (μ 263) (pk a b c t).toNat v.toNat := by
    rw [← (hI.2.2.2.2.2.1 (pk a b c t).toNat v.toNat (by unfold k3 at hp; omega) (by omega)).1]
    congr 1; unfold k3 at hp; omega
  intro _ _ _ _ _
  refine r_wordOf ha hb hc (fun _ _ => ?_)
  rw [e]
  refine ⟨⟨by unfold k3 at hp; omega, by unfold k3 at hp; omega⟩, fun z => h0 z, fun z => r_withWord ha hb hc ⟨hv, by omega⟩ (fun _ _ => h1 z)⟩
