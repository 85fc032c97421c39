/-! more of what the class's small methods answer while an inn is open -/
theorem k_val {μ : xM} {w : Int} {Q : Int → xM → Prop} (h : iOpen μ) (h1 : wordF (μ 263) w → Q (μ 263 (175 + w.toNat)) μ) (h0 : ¬ wordF (μ 263) w → Q 0 μ) : tX2_valueOf 39 w μ Q := by
  have b := h.2.1.W
  intro _ _
  refine k_word h (fun q => fun _ _ => ⟨fun z => absurd z (by decide), fun _ => ⟨⟨q.1, by have := q.2; omega⟩, ?_⟩⟩) (fun q => fun _ _ => ⟨fun _ => h0 q, fun z => absurd z (by decide)⟩)
  have c := (h.2.2.1.2.1 w.toNat (by have := q.1; have := q.2; omega) (by have := q.1; have := q.2; omega)).2.1
  show Q (μ 41 w.toNat) μ
  rw [c]
  exact h1 q
theorem k_guest {μ : xM} {g : Int} {Q : Int → xM → Prop} (h : iOpen μ) (h1 : 0 ≤ g → g < μ 263 4 → Q 1 μ) (h0 : ¬ (0 ≤ g ∧ g < μ 263 4) → Q 0 μ) : tX2_isGuest 39 g μ Q := by
  have a := h.2.2.1.1 4 (by omega)
  have b := h.2.1.N
  intro _ _
  refine ⟨fun c => h0 (by omega), fun c => ⟨fun d => h0 (by omega), fun d => ⟨fun e => h0 (by omega), fun e => h1 (by omega) (by omega)⟩⟩⟩
theorem k_guestS {μ : xM} {g : Int} {Q : Int → xM → Prop} (h : iShut μ) (h0 : Q 0 μ) : tX2_isGuest 39 g μ Q := by
  have a := (h.2.1 4 (by omega)).1
  intro _ _
  refine ⟨fun c => h0, fun c => ⟨fun d => h0, fun d => ⟨fun e => h0, fun e => by omega⟩⟩⟩
theorem k_first {μ : xM} {g : Int} {Q : Int → xM → Prop} (h : iOpen μ) (h1 : 0 ≤ g → g < μ 263 4 → Q (μ 263 (295 + g.toNat)) μ) (h0 : ¬ (0 ≤ g ∧ g < μ 263 4) → Q (-1) μ) : tX2_firstOf 39 g μ Q := by
  have b := h.2.1.N
  intro _ _
  refine k_guest h (fun q q2 => fun _ _ => ⟨fun z => absurd z (by decide), fun _ => ⟨⟨q, by omega⟩, ?_⟩⟩) (fun q => fun _ _ => ⟨fun _ => h0 q, fun z => absurd z (by decide)⟩)
  show Q (μ 69 g.toNat) μ
  rw [h.2.2.1.2.2.2.1 g.toNat (by omega)]
  exact h1 q q2
theorem k_likely {μ : xM} {g : Int} {Q : Int → xM → Prop} (h : iOpen μ) (q : 0 ≤ g) (q2 : g < μ 263 5) (h1 : Q (μ 263 (303 + g.toNat)) μ) : tX2_likelyOf 39 g μ Q := by
  have a := h.2.2.1.1 5 (by omega)
  have b := h.2.1.K
  intro _ _
  refine ⟨fun c => by omega, fun c => ⟨fun d => by omega, fun d => ⟨fun e => by omega, fun e => ⟨⟨q, by omega⟩, ?_⟩⟩⟩⟩
  show Q (μ 70 g.toNat) μ
  rw [(h.2.2.1.2.2.2.2.1 g.toNat (by omega)).1]
  exact h1
theorem k_weight {μ : xM} {g : Int} {Q : Int → xM → Prop} (h : iOpen μ) (q : 0 ≤ g) (q2 : g < μ 263 5) (h1 : Q (μ 263 (309 + g.toNat)) μ) : tX2_weightOf 39 g μ Q := by
  have a := h.2.2.1.1 5 (by omega)
  have b := h.2.1.K
  intro _ _
  refine ⟨fun c => by omega, fun c => ⟨fun d => by omega, fun d => ⟨fun e => by omega, fun e => ⟨⟨q, by omega⟩, ?_⟩⟩⟩⟩
  show Q (μ 71 g.toNat) μ
  rw [(h.2.2.1.2.2.2.2.1 g.toNat (by omega)).2]
  exact h1
theorem k_seen {μ : xM} {g : Int} {Q : Int → xM → Prop} (h : iOpen μ) (q : 0 ≤ g) (q2 : g < μ 263 6) (h1 : Q (μ 263 (315 + g.toNat)) μ) : tX2_seenOf 39 g μ Q := by
  have a := h.2.2.1.1 6 (by omega)
  have b := h.2.1.S
  intro _ _
  refine ⟨fun c => by omega, fun c => ⟨fun d => by omega, fun d => ⟨fun e => by omega, fun e => ⟨⟨q, by omega⟩, ?_⟩⟩⟩⟩
  show Q (μ 72 g.toNat) μ
  rw [h.2.2.1.2.2.2.2.2 g.toNat (by omega)]
  exact h1
theorem s_kind {μ : xM} {w : Int} {Q : Int → xM → Prop} (h1 : 0 ≤ w → w < 25 → Q 1 μ) (h0 : ¬ (0 ≤ w ∧ w < 25) → Q 0 μ) : tX1_isKind w μ Q := by
  intro _ _
  exact ⟨fun c => h0 (by omega), fun c => ⟨fun d => h0 (by omega), fun d => h1 (by omega) (by omega)⟩⟩
theorem s_spot {μ : xM} {w : Int} {Q : Int → xM → Prop} (h1 : 0 ≤ w → w < 24 → Q 1 μ) (h0 : ¬ (0 ≤ w ∧ w < 24) → Q 0 μ) : tX1_isSpot w μ Q := by
  intro _ _
  exact ⟨fun c => h0 (by omega), fun c => ⟨fun d => h0 (by omega), fun d => h1 (by omega) (by omega)⟩⟩
theorem s_chainOf {μ : xM} {w : Int} {Q : Int → xM → Prop} (h0 : 0 ≤ w) (h1 : w < 25) (h : Q (μ 205 w.toNat) μ) : tX1_chainOf w μ Q := by
  intro _ _
  exact s_kind (fun _ _ => fun _ _ => ⟨fun z => absurd z (by decide), fun _ => ⟨⟨h0, h1⟩, h⟩⟩) (fun q => absurd ⟨h0, h1⟩ q)
theorem s_nimOf {μ : xM} {w : Int} {Q : Int → xM → Prop} (h0 : 0 ≤ w) (h1 : w < 25) (h : Q (μ 206 w.toNat) μ) : tX1_nimOf w μ Q := by
  intro _ _
  exact s_kind (fun _ _ => fun _ _ => ⟨fun z => absurd z (by decide), fun _ => ⟨⟨h0, h1⟩, h⟩⟩) (fun q => absurd ⟨h0, h1⟩ q)
theorem s_riseOf {μ : xM} {w : Int} {Q : Int → xM → Prop} (h0 : 0 ≤ w) (h1 : w < 25) (h : Q (μ 207 w.toNat) μ) : tX1_riseOf w μ Q := by
  intro _ _
  exact s_kind (fun _ _ => fun _ _ => ⟨fun z => absurd z (by decide), fun _ => ⟨⟨h0, h1⟩, h⟩⟩) (fun q => absurd ⟨h0, h1⟩ q)
theorem s_ups {μ : xM} {w : Int} {Q : Int → xM → Prop} (h0 : 0 ≤ w) (h1 : w < 25) (h : Q (μ 178 w.toNat) μ) : tX1_ups w μ Q := by
  intro _ _
  exact s_kind (fun _ _ => fun _ _ => ⟨fun z => absurd z (by decide), fun _ => ⟨⟨h0, h1⟩, h⟩⟩) (fun q => absurd ⟨h0, h1⟩ q)
theorem s_downs {μ : xM} {w : Int} {Q : Int → xM → Prop} (h0 : 0 ≤ w) (h1 : w < 24) (h : Q (μ 204 w.toNat) μ) : tX1_downs w μ Q := by
  intro _ _
  exact s_spot (fun _ _ => fun _ _ => ⟨fun z => absurd z (by decide), fun _ => ⟨⟨h0, h1⟩, h⟩⟩) (fun q => absurd ⟨h0, h1⟩ q)
theorem s_downsE {μ : xM} {Q : Int → xM → Prop} (h : Q 0 μ) : tX1_downs 24 μ Q := by
  intro _ _
  exact s_spot (fun _ q => absurd q (by decide)) (fun q => fun _ _ => ⟨fun _ => h, fun z => absurd z (by decide)⟩)
theorem s_byOf {μ : xM} {w i : Int} {Q : Int → xM → Prop} (h0 : 0 ≤ w) (h1 : w < 25) (h2 : 0 ≤ i) (h3 : i < 24) (h : Q (μ (153 + w.toNat) i.toNat) μ) : tX1_byOf w i μ Q := by
  intro _ _ _
  exact s_kind (fun _ _ => fun _ _ => ⟨fun z => absurd z (by decide), fun _ => s_spot (fun _ _ => fun _ _ => ⟨fun z => absurd z (by decide), fun _ => ⟨⟨h0, h1⟩, ⟨h2, h3⟩, h⟩⟩) (fun q => absurd ⟨h2, h3⟩ q)⟩) (fun q => absurd ⟨h0, h1⟩ q)
theorem s_upOf {μ : xM} {w i : Int} {Q : Int → xM → Prop} (h0 : 0 ≤ w) (h1 : w < 25) (h2 : 0 ≤ i) (h3 : i < 24) (h : Q (μ (127 + w.toNat) i.toNat) μ) : tX1_upOf w i μ Q := by
  intro _ _ _
  exact s_kind (fun _ _ => fun _ _ => ⟨fun z => absurd z (by decide), fun _ => s_spot (fun _ _ => fun _ _ => ⟨fun z => absurd z (by decide), fun _ => ⟨⟨h0, h1⟩, ⟨h2, h3⟩, h⟩⟩) (fun q => absurd ⟨h2, h3⟩ q)⟩) (fun q => absurd ⟨h0, h1⟩ q)
theorem s_downOf {μ : xM} {w i : Int} {Q : Int → xM → Prop} (h0 : 0 ≤ w) (h1 : w < 24) (h2 : 0 ≤ i) (h3 : i < 25) (h : Q (μ (180 + w.toNat) i.toNat) μ) : tX1_downOf w i μ Q := by
  intro _ _ _
  exact s_spot (fun _ _ => fun _ _ => ⟨fun z => absurd z (by decide), fun _ => s_kind (fun _ _ => fun _ _ => ⟨fun z => absurd z (by decide), fun _ => ⟨⟨h0, h1⟩, ⟨h2, h3⟩, h⟩⟩) (fun q => absurd ⟨h2, h3⟩ q)⟩) (fun q => absurd ⟨h0, h1⟩ q)
theorem k_letterOf {μ : xM} {w v : Int} {Q : Int → xM → Prop} (hI : iOpen μ) (h0 : 0 ≤ w) (h1 : w < 25) (h2 : 0 ≤ v) (h3 : v < 24) (h : Q (byF (μ 263) w.toNat v.toNat) μ) : tX1_letterOf w v μ Q := by
  intro _ _ _
  refine s_kind (fun _ _ => fun _ _ => ⟨fun z => absurd z (by decide), fun _ => s_spot (fun _ _ => fun _ _ => ⟨fun z => absurd z (by decide), fun _ => ⟨⟨h0, h1⟩, ⟨h2, h3⟩, ?_⟩⟩) (fun q => absurd ⟨h2, h3⟩ q)⟩) (fun q => absurd ⟨h0, h1⟩ q)
  rw [(hI.2.2.2.2.2.1 w.toNat v.toNat (by omega) (by omega)).2]
  exact h
/-! the reference's -/
theorem r_word {μ : xM} {R : Nat → Int} {w : Int} {Q : Int → xM → Prop} (h : iOpen μ) (hR : μ 263 = R) (h1 : wordF R w → Q 1 μ) (h0 : ¬ wordF R w → Q 0 μ) : tX11_isWordThere w μ Q := by
  subst hR
  have a := h.1
  have b := h.2.1.W
  intro _ _
  refine ⟨fun c => by omega, fun c => ⟨⟨by omega, by omega⟩, s_within (fun x y => fun _ _ => ⟨fun e => absurd e (by decide), fun _ => h1 ⟨x, by omega⟩⟩) (fun x => fun _ _ => ⟨fun _ => h0 (fun g => x ⟨g.1, by have := g.2; omega⟩), fun e => absurd e (by decide)⟩)⟩⟩
theorem r_wordS {μ : xM} {w : Int} {Q : Int → xM → Prop} (h : iShut μ) (h0 : Q 0 μ) : tX11_isWordThere w μ Q := by
  intro _ _
  exact ⟨fun _ => h0, fun c => absurd h.1 c⟩
theorem r_guest {μ : xM} {R : Nat → Int} {g : Int} {Q : Int → xM → Prop} (h : iOpen μ) (hR : μ 263 = R) (h1 : 0 ≤ g → g < R 4 → Q 1 μ) (h0 : ¬ (0 ≤ g ∧ g < R 4) → Q 0 μ) : tX11_isGuest g μ Q := by
  subst hR
  have a := h.1
  have b := h.2.1.N
  intro _ _
  refine ⟨fun c => by omega, fun c => ⟨⟨by omega, by omega⟩, s_within (fun x y => fun _ _ => ⟨fun e => absurd e (by decide), fun _ => h1 x (by omega)⟩) (fun x => fun _ _ => ⟨fun _ => h0 (fun g => x ⟨g.1, by have := g.2; omega⟩), fun e => absurd e (by decide)⟩)⟩⟩
theorem r_guestS {μ : xM} {w : Int} {Q : Int → xM → Prop} (h : iShut μ) (h0 : Q 0 μ) : tX11_isGuest w μ Q := by
  intro _ _
  exact ⟨fun _ => h0, fun c => absurd h.1 c⟩
theorem r_table {μ : xM} {R : Nat → Int} {t : Int} {Q : Int → xM → Prop} (h : iOpen μ) (hR : μ 263 = R) (h1 : 0 ≤ t → t < R 0 → Q 1 μ) (h0 : ¬ (0 ≤ t ∧ t < R 0) → Q 0 μ) : tX11_isTable t μ Q := by
  subst hR
  have a := h.1
  have b := h.2.1.T
  intro _ _
  refine ⟨fun c => by omega, fun c => ⟨⟨by omega, by omega⟩, s_within (fun x y => fun _ _ => ⟨fun e => absurd e (by decide), fun _ => h1 x (by omega)⟩) (fun x => fun _ _ => ⟨fun _ => h0 (fun g => x ⟨g.1, by have := g.2; omega⟩), fun e => absurd e (by decide)⟩)⟩⟩
theorem r_tableS {μ : xM} {w : Int} {Q : Int → xM → Prop} (h : iShut μ) (h0 : Q 0 μ) : tX11_isTable w μ Q := by
  intro _ _
  exact ⟨fun _ => h0, fun c => absurd h.1 c⟩
theorem r_good {μ : xM} {R : Nat → Int} {w : Int} {Q : Int → xM → Prop} (hR : μ 263 = R) (hw : wordF R w) (hw2 : R 3 ≤ 24) (h1 : goodI R w → Q 1 μ) (h2 : ¬ goodI R w → Q 0 μ) : tX11_isGood w μ Q := by
  subst hR
  have e1 : (199 + w).toNat = 199 + w.toNat := by have := hw.1; omega
  have e2 : (7 + w).toNat = 7 + w.toNat := by have := hw.1; omega
  have q1 := hw.1
  have q2 := hw.2
  intro _ _
  rw [e1, e2]
  refine ⟨⟨by omega, by omega⟩, fun c => h2 (fun z => c z.2.1), fun c => ⟨⟨by omega, by omega⟩, fun d => h2 (fun z => by have := z.2.2; omega), fun d => h1 ⟨hw, c, by omega⟩⟩⟩
theorem r_letterAt {w i : Int} {μ : xM} {R : Nat → Int} {Q : Int → xM → Prop} (hR : μ 263 = R) (ok : okR R) (hw : wordF R w) (h1 : 0 ≤ i) (h2 : i < R (7 + w.toNat)) (h : Q (R (31 + 6 * w.toNat + i.toNat) - 97) μ) : tX11_letterAt w i μ Q := by
  subst hR
  obtain ⟨w0, w1⟩ := hw
  have e : (31 + 6 * w + i).toNat = 31 + 6 * w.toNat + i.toNat := by omega
  have b := ok.W
  have bl := ok.len (w := w.toNat) (by omega)
  have bx := ok.let (w := w.toNat) (i := i.toNat) (by omega) (by omega)
  intro _ _ _
  rw [e]
  exact ⟨⟨by omega, by omega⟩, ⟨by omega, by omega⟩, h⟩
/-! memories on the way -/
def m1 (μ : xM) (a : Int) : xM := wi (wi (wi μ 0 18 a) 260 0 0) 260 11 0
theorem m1_a (μ : xM) (a : Int) : asame μ (m1 μ a) := ((asame.w (by decide)).tr (asame.w (by decide))).tr (asame.w (by decide))
theorem iOpen_m1 {μ : xM} (h : iOpen μ) (a : Int) : iOpen (m1 μ a) := iOpen_a (m1_a μ a) h
theorem iShut_m1 {μ : xM} (h : iShut μ) (a : Int) : iShut (m1 μ a) := iShut_a (m1_a μ a) h
theorem K_no {μ : xM} {K : xM → Prop} {a : Int} (h : K (tr μ a)) : K (wi (m1 μ a) 260 11 a) := by rw [m1, tr_no]; exact h
