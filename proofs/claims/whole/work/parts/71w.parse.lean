/-! the class reads a word's line -/
theorem s_wordHere {T : Nat → Int} {n b w : Nat} {X : Nat → Int} {ν : xM} {Q : Int → xM → Prop} (c : cD T n X ν) (t : tC T n b ν) (hw : (w : Int) < X 3) (h1 : tlW T n X b w → Q 1 ν) (h0 : ¬ tlW T n X b w → Q 0 ν) : tX5_isWordHere w ν Q := by
  have wb := c.1.2.1
  have e3 := c.2.1 3 (by omega) (by omega)
  have cw := c.2.2.2.2.2.1 w hw
  have ow := c.1.2.2.2.2.2.1 w hw
  have n9 := t.1.1
  have tl := tkS7_le (T := T) t.2.1
  have hW : hWord ν 1 w := ⟨by omega, by rw [e3]; omega, by omega⟩
  intro _ _
  refine s_hLen (fun _ _ _ => ?_) (fun z => absurd hW z)
  have l2 : ν (1 + 1) (w : Int).toNat = X (7 + w) := cw.1
  rw [l2, t.2.2.1, t.2.2.2.1]
  refine ⟨⟨by omega, by omega⟩, fun el => ?_, fun z => h0 (fun q => z q.1)⟩
  refine rd1 (n := (tkS7 T n b : Int)) (fun i => ∀ k : Nat, (b : Int) + k < i → X (31 + 6 * w + k) = T (b + k)) (by omega) (fun k hk => by omega) ?_
  rintro l K l0 l1 hl hK
  obtain ⟨l, rfl⟩ : ∃ m : Nat, l = m := ⟨l.toNat, by omega⟩
  rw [t.2.2.2.1, t.2.2.1]
  refine ⟨⟨by omega, by omega⟩, fun z => h1 ⟨by omega, fun i hi => hl i (by omega)⟩, fun z => ⟨⟨by omega, by omega⟩, s_hGlyph (fun _ i0 i6 _ _ => ?_) (fun z => absurd ⟨hW, by omega, by omega⟩ z)⟩⟩
  have gl : ν (1 + 4 + (w : Int).toNat) ((l : Int) - b).toNat = X (31 + 6 * w + (l - b)) - 97 := by
    have := cw.2.2.2 (l - b) (by omega)
    rw [if_pos (by omega)] at this
    rw [Int.toNat_natCast, show 1 + 4 + w = 5 + w by omega, show ((l : Int) - b).toNat = l - b by omega]; exact this
  rw [gl]
  refine s_byte t.1 (by omega) (fun _ _ => ⟨⟨?_, ?_⟩, fun q => hK (by omega) (fun k hk => ?_), fun q => h0 (fun y => q ?_)⟩)
  · have := t.1.2.2.2 l (by omega); omega
  · have := t.1.2.2.2 l (by omega); omega
  · by_cases e : b + k = l
    · rw [e, show k = l - b by omega]; omega
    · exact hl k (by omega)
  · have := y.2 (l - b) (by omega)
    rw [this, show b + (l - b) = l by omega]
theorem scan_b {P : Nat → Prop} : ∀ m p : Nat, -1 ≤ scanF P (fun w => w) m p ∧ scanF P (fun w => w) m p < (p : Int) + m := by
  intro m
  induction m with
  | zero => intro p; simp [scanF]; omega
  | succ m ih =>
    intro p
    by_cases c : P p
    · rw [scanF_yes c]; constructor <;> omega
    · rw [scanF_no c]; have := ih (p + 1); omega
theorem fndF_b {T : Nat → Int} {n b : Nat} {X : Nat → Int} (h : 0 ≤ X 3) : -1 ≤ fndF T n X b ∧ fndF T n X b < X 3 ∨ fndF T n X b = -1 := by
  have := scan_b (P := tlW T n X b) (X 3).toNat 0
  unfold fndF
  omega
theorem s_told7 {T : Nat → Int} {n b : Nat} {X : Nat → Int} {ν : xM} {Q : Int → xM → Prop} (c : cD T n X ν) (t : tC T n b ν) (hq : Q (fndF T n X b) ν) : tX5_toldWord ν Q := by
  have wb := c.1.2.1
  have e3 := c.2.1 3 (by omega) (by omega)
  intro _
  refine rd1 (n := X 3) (fun i => scanF (tlW T n X b) (fun w => w) (X 3 - i).toNat i.toNat = fndF T n X b) (by omega) (by unfold fndF; rw [Int.sub_zero]; rfl) ?_
  rintro i K i0 i1 hi hK
  obtain ⟨i, rfl⟩ : ∃ m : Nat, i = m := ⟨i.toNat, by omega⟩
  rw [e3]
  rw [Int.toNat_natCast] at hi
  refine ⟨⟨by omega, by omega⟩, fun z => ?_, fun z => ?_⟩
  · rw [show (X 3 - (i : Int)).toNat = 0 by omega] at hi
    rw [← hi] at hq; exact hq
  · rw [show (X 3 - (i : Int)).toNat = (X 3 - ((i : Int) + 1)).toNat + 1 by omega] at hi
    refine s_wordHere c t (by omega) (fun q _ _ => ⟨fun z => absurd z (by decide), fun _ => ?_⟩) (fun q _ _ => ⟨fun _ => hK (by omega) ?_, fun z => absurd z (by decide)⟩)
    · rw [scanF_yes q] at hi
      rw [← hi] at hq; exact hq
    · rw [scanF_no q] at hi
      exact hi
def aW (T : Nat → Int) (b w : Nat) (len : Nat) (μ ν : xM) : Prop := (∀ k, k ≠ 1 → k ≠ 2 → k ≠ 30 → k ≠ 5 + w → ν k = μ k) ∧ (∀ j, j ≠ 3 → ν 1 j = μ 1 j) ∧ ν 1 3 = (w : Int) + 1 ∧ (∀ j, j ≠ w → ν 2 j = μ 2 j ∧ ν 30 j = μ 30 j) ∧ ν 2 w = len ∧ ν 30 w = 0 ∧ ∀ i, i < 6 → ν (5 + w) i = if i < len then T (b + i) - 97 else -1
theorem s_addW {T : Nat → Int} {n b e w : Nat} {ν : xM} {Q : xM → Prop} (t : tpe T n ν) (hw : w < 24) (e3 : ν 1 3 = w) (be : b ≤ e) (en : e ≤ n) (e6 : e ≤ b + 6) (hq : ∀ ω, aW T b w (e - b) ν ω → Q ω) : tX2_addWord 1 36 900 b e ν Q := by
  have n9 := t.1
  intro _ _ _
  rw [e3]
  refine ⟨fun z => by omega, fun _ => ⟨fun z => by omega, fun _ => ⟨fun z => by omega, fun _ => ⟨⟨by omega, by omega⟩, fun z => by omega, fun _ => ⟨⟨by omega, by omega⟩, s_fill (by omega) (fun _ => ?_)⟩⟩⟩⟩⟩
  rw [Int.toNat_natCast, show 1 + 4 + w = 5 + w by omega]
  refine up1 (n := (e : Int)) (fun i ω => (∀ k, k ≠ 5 + w → ω k = ν k) ∧ ∀ j : Nat, j < 6 → ω (5 + w) j = if (b : Int) + j < i then T (b + j) - 97 else -1) (by omega) ⟨fun k hk => ?_, fun j hj => ?_⟩ ?_
  · funext j; simp [fillM, hk]
  · rw [if_neg (by omega)]; simp [fillM, hj]
  rintro i ω K i0 i1 ⟨f, g⟩ _ hK
  obtain ⟨i, rfl⟩ : ∃ m : Nat, i = m := ⟨i.toNat, by omega⟩
  have f3 : ω 1 3 = w := by rw [f 1 (by omega)]; exact e3
  rw [f3]
  refine ⟨⟨by omega, by omega⟩, fun z => ⟨⟨by omega, by omega⟩, ⟨by omega, by omega⟩, wl fun _ => ?_⟩, fun z => ⟨⟨by omega, by omega⟩, ⟨by omega, by omega⟩, ⟨by omega, by omega⟩, ?_⟩⟩
  · rw [Int.toNat_natCast]
    have f4 : wi ω (1 + 1) w ((e : Int) - b) 1 3 = w := by rw [wi_cell (by omega)]; exact f3
    rw [f4]
    refine ⟨⟨by omega, by omega⟩, wl fun _ => ?_⟩
    rw [Int.toNat_natCast]
    have f5 : wi (wi ω (1 + 1) w ((e : Int) - b)) (1 + 29) w 0 1 3 = w := by rw [wi_cell (by omega)]; exact f4
    rw [f5]
    refine ⟨⟨by omega, by omega⟩, wl fun _ => hq _ ⟨fun k a1 a2 a3 a4 => ?_, fun j hj => ?_, wi_self _ _ _ _, fun j hj => ⟨?_, ?_⟩, ?_, ?_, fun j hj => ?_⟩⟩
    · rw [← f k a4]; funext j; rw [wi_cell a1, wi_cell (by omega), wi_cell (by omega)]
    · rw [wi_place hj, wi_cell (by omega), wi_cell (by omega), f 1 (by omega)]
    · rw [wi_cell (by omega), wi_cell (by omega)]
      show wi ω 2 w _ 2 j = _
      rw [wi_place hj, f 2 (by omega)]
    · rw [wi_cell (by omega)]
      show wi _ 30 w 0 30 j = _
      rw [wi_place hj, wi_cell (by omega), f 30 (by omega)]
    · rw [wi_cell (by omega), wi_cell (by omega)]
      show wi ω 2 w _ 2 w = _
      rw [wi_self]; omega
    · rw [wi_cell (by omega)]
      show wi _ 30 w 0 30 w = _
      rw [wi_self]
    · rw [wi_cell (by omega), wi_cell (by omega), wi_cell (by omega), g j hj]
      by_cases q : j < e - b
      · rw [if_pos q, if_pos (by omega)]
      · rw [if_neg q, if_neg (by omega)]
  · have ti := t.2.2.1 i (by omega)
    have tb := t.2.2.2 i (by omega)
    rw [Int.toNat_natCast, f 36 (by omega), ti]
    refine ⟨⟨by omega, by omega⟩, wl fun _ => hK _ (by omega) ⟨fun k hk => ?_, fun j hj => ?_⟩⟩
    · rw [← f k hk]; funext j; exact wi_cell (by omega)
    · rw [show 1 + 4 + (w : Int).toNat = 5 + w by omega]
      by_cases q : j = ((i : Int) - b).toNat
      · rw [q, wi_self, if_pos (by omega), show b + ((i : Int) - b).toNat = i by omega]
      · rw [wi_place q, g j hj]
        by_cases y : (b : Int) + j < i
        · rw [if_pos y, if_pos (by omega)]
        · rw [if_neg y, if_neg (by omega)]
/-- a word more -/
def mW (T : Nat → Int) (b w len : Nat) (v q : Int) (X Y : Nat → Int) : Prop := Y 3 = (w : Int) + 1 ∧ Y (7 + w) = len ∧ Y (175 + w) = v ∧ Y (199 + w) = q ∧ (∀ i, i < len → Y (31 + 6 * w + i) = T (b + i))
  ∧ ∀ k, k ≠ 3 → k ≠ 7 + w → k ≠ 175 + w → k ≠ 199 + w → ¬ (31 + 6 * w ≤ k ∧ k < 31 + 6 * w + len) → Y k = X k
theorem okP_word {T : Nat → Int} {b w len : Nat} {v q : Int} {X Y : Nat → Int} (h : okP X) (m : mW T b w len v q X Y) (hw : X 3 = w) (w24 : w < 24) (l1 : 1 ≤ len) (l6 : len ≤ 6) (bv : 0 ≤ v ∧ v ≤ 99) (bq : q = 0 ∨ q = 1) (hT : ∀ i, i < len → 97 ≤ T (b + i) ∧ T (b + i) ≤ 122) : okP Y := by
  obtain ⟨e3, e7, ev, eb, el, eo⟩ := m
  obtain ⟨a, b3, c, d, e, f, i, j, k, l, mm⟩ := h
  have o := fun x (h1 : x < 3 ∨ (3 < x ∧ x < 7) ∨ 223 ≤ x) => eo x (by omega) (by omega) (by omega) (by omega) (by omega)
  refine ⟨fun z => ?_, ⟨by omega, by omega⟩, by rw [o 4 (by omega)]; exact c, by rw [o 5 (by omega)]; exact d, by rw [o 6 (by omega)]; exact e, fun x hx => ?_, fun x hx => ?_, fun x hx => ?_, fun x hx => ?_, fun x hx hy => ?_, fun x hx => ?_⟩
  · rw [o 0 (by omega)] at z
    rw [o 0 (by omega), o 1 (by omega), o 2 (by omega)]; exact a z
  · by_cases y : x = w
    · rw [y, e7, ev, eb]
      refine ⟨by omega, bv, bq, fun i hi => ?_⟩
      rw [el i (by omega)]; exact hT i (by omega)
    · have fx := f x (by omega)
      rw [eo (7 + x) (by omega) (by omega) (by omega) (by omega) (by omega), eo (175 + x) (by omega) (by omega) (by omega) (by omega) (by omega), eo (199 + x) (by omega) (by omega) (by omega) (by omega) (by omega)]
      refine ⟨fx.1, fx.2.1, fx.2.2.1, fun i hi => ?_⟩
      rw [eo (31 + 6 * x + i) (by omega) (by omega) (by omega) (by omega) (by omega)]; exact fx.2.2.2 i hi
  · rw [o 4 (by omega)] at hx
    rw [o (295 + x) (by omega)]; exact i x hx
  · rw [o 5 (by omega)] at hx
    rw [o (303 + x) (by omega), o (309 + x) (by omega)]; exact j x hx
  · rw [o 6 (by omega)] at hx
    rw [o (315 + x) (by omega), e3]
    have := k x hx; omega
  · rw [e3] at hy
    rw [eo (199 + x) (by omega) (by omega) (by omega) (by omega) (by omega)]; exact l x hx (by omega)
  · rw [o 4 (by omega)] at hx
    rw [o (223 + x) (by omega)]; exact mm x hx
theorem mW_add {T : Nat → Int} {n b w : Nat} {v : Int} {X : Nat → Int} (hw : X 3 = w) (w24 : w < 24) (h0 : X (199 + w) = 0) (l0 : b ≤ tkS7 T n b) (l6 : tkS7 T n b ≤ b + 6) : mW T b w (tkS7 T n b - b) v 0 X (addW T n X b v) := by
  have ad : ∀ k, addW T n X b v k = if 31 + 6 * w ≤ k ∧ k < 31 + 6 * w + (tkS7 T n b - b) then T (b + (k - (31 + 6 * w))) else if k = 7 + w then (tkS7 T n b : Int) - b else if k = 175 + w then v else if k = 3 then (w : Int) + 1 else X k := fun k => by unfold addW; rw [hw, Int.toNat_natCast]
  refine ⟨?_, ?_, ?_, ?_, fun i hi => ?_, fun k a1 a2 a3 a4 a5 => ?_⟩
  · rw [ad, if_neg (by omega), if_neg (by omega), if_neg (by omega), if_pos rfl]
  · rw [ad, if_neg (by omega), if_pos rfl]; omega
  · rw [ad, if_neg (by omega), if_neg (by omega), if_pos rfl]
  · rw [ad, if_neg (by omega), if_neg (by omega), if_neg (by omega), if_neg (by omega)]; exact h0
  · rw [ad, if_pos (by omega)]; congr 2; omega
  · rw [ad, if_neg a5, if_neg a2, if_neg a3, if_neg a1]
theorem mW_bar {T : Nat → Int} {b w len : Nat} {v q : Int} {X Y : Nat → Int} (m : mW T b w len v q X Y) (w24 : w < 24) (l6 : len ≤ 6) : mW T b w len v 1 X (up Y (199 + w) 1) := by
  obtain ⟨e3, e7, ev, eb, el, eo⟩ := m
  refine ⟨?_, ?_, ?_, up_self _ _ _, fun i hi => ?_, fun k a1 a2 a3 a4 a5 => ?_⟩
  · rw [up_ne (by omega)]; exact e3
  · rw [up_ne (by omega)]; exact e7
  · rw [up_ne (by omega)]; exact ev
  · rw [up_ne (by omega)]; exact el i hi
  · rw [up_ne (by omega)]; exact eo k a1 a2 a3 a4 a5
theorem cD_word {T : Nat → Int} {n b w len : Nat} {v q : Int} {X Y : Nat → Int} {ν ω : xM} (c : cD T n X ν) (m : mW T b w len v q X Y) (hw : X 3 = w) (w24 : w < 24) (l1 : 1 ≤ len) (l6 : len ≤ 6) (bv : 0 ≤ v ∧ v ≤ 99) (bq : q = 0 ∨ q = 1) (hT : ∀ i, i < len → 97 ≤ T (b + i) ∧ T (b + i) ≤ 122)
    (f : ∀ k, k ≠ 1 → k ≠ 2 → k ≠ 3 → k ≠ 30 → k ≠ 5 + w → k ≠ 35 → ω k = ν k) (f1 : ∀ j, j ≠ 3 → ω 1 j = ν 1 j) (g1 : ω 1 3 = (w : Int) + 1) (f2 : ∀ j, j ≠ w → ω 2 j = ν 2 j ∧ ω 3 j = ν 3 j ∧ ω 30 j = ν 30 j) (g2 : ω 2 w = len ∧ ω 3 w = v ∧ ω 30 w = q) (g5 : ∀ i, i < 6 → ω (5 + w) i = if i < len then T (b + i) - 97 else -1) (f7 : ω 35 7 = ν 35 7 ∧ ω 35 8 = ν 35 8) : cD T n Y ω := by
  have ok := okP_word c.1 m hw w24 l1 l6 bv bq hT
  obtain ⟨e3, e7, ev, eb, el, eo⟩ := m
  obtain ⟨c0, c1, c2, c3, c4, c5, c6, c7, c8⟩ := c
  have o := fun x (h1 : x < 3 ∨ (3 < x ∧ x < 7) ∨ 223 ≤ x) => eo x (by omega) (by omega) (by omega) (by omega) (by omega)
  refine ⟨ok, fun j h3 h7 => ?_, ?_, ?_, ?_, fun x hx => ?_, fun x hx => ?_, fun x hx => ?_, fun x hx => ?_⟩
  · by_cases y : j = 3
    · rw [y, g1, e3]
    · rw [f1 j y, o j (by omega)]; exact c1 j h3 h7
  · rw [o 0 (by omega), o 1 (by omega), o 2 (by omega), f1 0 (by omega), f1 1 (by omega), f1 2 (by omega)]; exact c2
  · rw [o 0 (by omega), f7.1]; exact c3
  · rw [o 321 (by omega), f7.2]; exact c4
  · by_cases y : x = w
    · rw [y, e7, ev, eb]
      refine ⟨g2.1, g2.2.1, g2.2.2, fun i hi => ?_⟩
      rw [g5 i hi]
      by_cases z : i < len
      · rw [if_pos z, if_pos (by omega), el i z]
      · rw [if_neg z, if_neg (by omega)]
    · have fx := c5 x (by omega)
      have ox := c0.2.2.2.2.2.1 x (by omega)
      rw [(f2 x y).1, (f2 x y).2.1, (f2 x y).2.2, f (5 + x) (by omega) (by omega) (by omega) (by omega) (by omega) (by omega), eo (7 + x) (by omega) (by omega) (by omega) (by omega) (by omega), eo (175 + x) (by omega) (by omega) (by omega) (by omega) (by omega), eo (199 + x) (by omega) (by omega) (by omega) (by omega) (by omega)]
      refine ⟨fx.1, fx.2.1, fx.2.2.1, fun i hi => ?_⟩
      rw [fx.2.2.2 i hi]
      by_cases z : (i : Int) < X (7 + x)
      · rw [if_pos z, if_pos z, eo (31 + 6 * x + i) (by omega) (by omega) (by omega) (by omega) (by omega)]
      · rw [if_neg z, if_neg z]
  · rw [o 4 (by omega)] at hx
    rw [f 31 (by omega) (by omega) (by omega) (by omega) (by omega) (by omega), f 37 (by omega) (by omega) (by omega) (by omega) (by omega) (by omega), f 38 (by omega) (by omega) (by omega) (by omega) (by omega) (by omega), o (295 + x) (by omega), o (223 + x) (by omega)]
    obtain ⟨r, s, e, q1, q2, q3, q4, q5, q6⟩ := c6 x hx
    exact ⟨r, s, e, q1, q2, q3, q4, q5, fun i hi => by rw [o (231 + 8 * x + i) (by omega)]; exact q6 i hi⟩
  · rw [o 5 (by omega)] at hx
    rw [f 32 (by omega) (by omega) (by omega) (by omega) (by omega) (by omega), f 33 (by omega) (by omega) (by omega) (by omega) (by omega) (by omega), o (303 + x) (by omega), o (309 + x) (by omega)]; exact c7 x hx
  · rw [o 6 (by omega)] at hx
    rw [f 34 (by omega) (by omega) (by omega) (by omega) (by omega) (by omega), o (315 + x) (by omega)]; exact c8 x hx
