/-! the inn's text read, as a function: a fault and its place, or an inn and the token behind -/
abbrev pO := Sum (Int × Nat) ((Nat → Int) × Nat)
def bd (f : Int) (p : Nat) : pO := Sum.inl (f, p)
def okk (X : Nat → Int) (a : Nat) : pO := Sum.inr (X, a)
noncomputable def cI {α : Type} (p : Prop) (x y : α) : α := @ite _ p (Classical.propDecidable _) x y
theorem cI_y {α : Type} {p : Prop} {x y : α} (h : p) : cI p x y = x := by simp [cI, h]
theorem cI_n {α : Type} {p : Prop} {x y : α} (h : ¬ p) : cI p x y = y := by simp [cI, h]
def isKw (T : Nat → Int) (n i a : Nat) : Prop := tkK T n a = 1 ∧ (tkS7 T n a : Int) - a = sLen i ∧ ∀ k : Nat, (k : Int) < sLen i → T (a + k) = sChr i k
noncomputable def keyF (T : Nat → Int) (n i a : Nat) (o : Nat → pO) : pO := cI (isKw T n i a) (o (nxF T n a)) (bd 1 a)
def wvl (T : Nat → Int) (n a : Nat) : Int := whF T a (tkS7 T n a - a)
noncomputable def numF (T : Nat → Int) (n : Nat) (lo hi : Int) (a : Nat) (o : Int → Nat → pO) : pO := cI (tkK T n a = 2) (cI (lo ≤ wvl T n a ∧ wvl T n a ≤ hi) (o (wvl T n a) (nxF T n a)) (bd 4 a)) (bd 1 a)
def up (X : Nat → Int) (j : Nat) (v : Int) : Nat → Int := fun k => if k = j then v else X k
theorem up_self (X : Nat → Int) (j : Nat) (v : Int) : up X j v j = v := by simp [up]
theorem up_ne {X : Nat → Int} {j k : Nat} {v : Int} (h : k ≠ j) : up X j v k = X k := by simp [up, h]
noncomputable def houseF (T : Nat → Int) (n : Nat) (X : Nat → Int) (a : Nat) : pO := cI (X 0 ≠ 0) (bd 3 a)
  (keyF T n 1 (nxF T n a) fun b1 => numF T n 1 3 b1 fun v1 b2 => keyF T n 2 b2 fun b3 => numF T n 1 6 b3 fun v2 b4 => keyF T n 3 b4 fun b5 =>
   cI (isKw T n 4 b5) (okk (up (up (up X 1 v2) 2 0) 0 v1) (nxF T n b5)) (cI (isKw T n 5 b5) (okk (up (up (up X 1 v2) 2 1) 0 v1) (nxF T n b5)) (cI (isKw T n 6 b5) (okk (up (up (up X 1 v2) 2 2) 0 v1) (nxF T n b5)) (bd 1 b5))))
def tlW (T : Nat → Int) (n : Nat) (X : Nat → Int) (b w : Nat) : Prop := X (7 + w) = (tkS7 T n b : Int) - b ∧ ∀ i, b + i < tkS7 T n b → X (31 + 6 * w + i) = T (b + i)
noncomputable def fndF (T : Nat → Int) (n : Nat) (X : Nat → Int) (b : Nat) : Int := scanF (tlW T n X b) (fun w => w) (X 3).toNat 0
def addW (T : Nat → Int) (n : Nat) (X : Nat → Int) (b : Nat) (v : Int) : Nat → Int := fun k =>
  if 31 + 6 * (X 3).toNat ≤ k ∧ k < 31 + 6 * (X 3).toNat + (tkS7 T n b - b) then T (b + (k - (31 + 6 * (X 3).toNat))) else if k = 7 + (X 3).toNat then (tkS7 T n b : Int) - b else if k = 175 + (X 3).toNat then v else if k = 3 then X 3 + 1 else X k
noncomputable def wordP (T : Nat → Int) (n : Nat) (X : Nat → Int) (a : Nat) : pO := cI (24 ≤ X 3) (bd 5 a) (cI (tkK T n (nxF T n a) = 1)
  (cI (0 ≤ fndF T n X (nxF T n a)) (bd 3 (nxF T n a)) (cI (tkS7 T n (nxF T n a) ≤ nxF T n a + 6)
    (keyF T n 8 (nxF T n (nxF T n a)) fun c1 => numF T n 0 99 c1 fun v c2 => cI (isKw T n 9 c2) (okk (up (addW T n X (nxF T n a) v) (199 + (X 3).toNat) 1) (nxF T n c2)) (okk (addW T n X (nxF T n a) v) c2))
    (bd 4 (nxF T n a)))) (bd 1 (nxF T n a)))
def nmG (T : Nat → Int) (n : Nat) (X : Nat → Int) (b g : Nat) : Prop := X (223 + g) = (tkS7 T n b : Int) - b ∧ ∀ i, b + i < tkS7 T n b → X (231 + 8 * g + i) = T (b + i)
noncomputable def nmF (T : Nat → Int) (n : Nat) (X : Nat → Int) (b : Nat) : Int := scanF (nmG T n X b) (fun w => w) (X 4).toNat 0
def addG (T : Nat → Int) (n : Nat) (X : Nat → Int) (b : Nat) : Nat → Int := fun k =>
  if 231 + 8 * (X 4).toNat ≤ k ∧ k < 231 + 8 * (X 4).toNat + (tkS7 T n b - b) then T (b + (k - (231 + 8 * (X 4).toNat))) else if k = 223 + (X 4).toNat then (tkS7 T n b : Int) - b else if k = 295 + (X 4).toNat then T b - 97 else if k = 4 then X 4 + 1 else X k
noncomputable def guestP (T : Nat → Int) (n : Nat) : Nat → (Nat → Int) → Nat → pO
  | 0, _, a => bd 5 a
  | m + 1, X, a => cI (tkK T n (nxF T n a) = 1) (cI (0 ≤ nmF T n X (nxF T n a)) (bd 3 (nxF T n a)) (cI (8 ≤ X 4) (bd 5 (nxF T n a))
    (cI (tkK T n (nxF T n (nxF T n a)) = 4) (guestP T n m (addG T n X (nxF T n a)) (nxF T n (nxF T n a))) (okk (addG T n X (nxF T n a)) (nxF T n (nxF T n a)))))) (bd 1 (nxF T n a))
noncomputable def likelyP (T : Nat → Int) (n : Nat) (X : Nat → Int) (a : Nat) : pO := cI (6 ≤ X 5) (bd 5 a) (cI (tkK T n (nxF T n a) = 1)
  (cI (tkS7 T n (nxF T n a) ≤ nxF T n a + 1) (cI (∃ i : Nat, (i : Int) < X 5 ∧ X (303 + i) = T (nxF T n a) - 97) (bd 3 (nxF T n a))
    (numF T n 1 9 (nxF T n (nxF T n a)) fun v c => okk (up (up (up X (303 + (X 5).toNat) (T (nxF T n a) - 97)) (309 + (X 5).toNat) v) 5 (X 5 + 1)) c)) (bd 4 (nxF T n a))) (bd 1 (nxF T n a)))
noncomputable def seenL (T : Nat → Int) (n : Nat) : Nat → (Nat → Int) → Nat → pO
  | 0, _, a => bd 5 a
  | m + 1, X, a => cI (tkK T n (nxF T n a) = 1) (cI (0 ≤ fndF T n X (nxF T n a)) (cI (6 ≤ X 6) (bd 5 (nxF T n a))
    (cI (tkK T n (nxF T n (nxF T n a)) = 4) (seenL T n m (up (up X (315 + (X 6).toNat) (fndF T n X (nxF T n a))) 6 (X 6 + 1)) (nxF T n (nxF T n a))) (okk (up (up X (315 + (X 6).toNat) (fndF T n X (nxF T n a))) 6 (X 6 + 1)) (nxF T n (nxF T n a))))) (bd 2 (nxF T n a))) (bd 1 (nxF T n a))
noncomputable def lineP (T : Nat → Int) (n : Nat) (X : Nat → Int) (a : Nat) : pO := cI (isKw T n 0 a) (houseF T n X a) (cI (isKw T n 7 a) (wordP T n X a) (cI (isKw T n 10 a) (guestP T n (9 - X 4).toNat X a) (cI (isKw T n 11 a) (likelyP T n X a)
  (cI (isKw T n 12 a) (cI (X 321 ≠ 0) (bd 3 a) (seenL T n (7 - X 6).toNat (up X 321 1) a)) (bd 1 a)))))
noncomputable def endP (T : Nat → Int) (n : Nat) (X : Nat → Int) (b : Nat) : pO := cI (tkK T n b = 0) (cI (X 0 = 0 ∨ X 3 = 0 ∨ X 4 = 0) (bd 6 b) (okk X b)) (bd 1 b)
noncomputable def linesP (T : Nat → Int) (n : Nat) : Nat → (Nat → Int) → Nat → pO
  | 0, _, a => bd 5 a
  | m + 1, X, a => match lineP T n X a with
    | .inl q => .inl q
    | .inr q => cI (tkK T n q.2 = 3) (linesP T n m q.1 (nxF T n q.2)) (endP T n q.1 q.2)
/-! what is told so far is in bounds -/
def okP (X : Nat → Int) : Prop := (X 0 ≠ 0 → (1 ≤ X 0 ∧ X 0 ≤ 3) ∧ (1 ≤ X 1 ∧ X 1 ≤ 6) ∧ (0 ≤ X 2 ∧ X 2 ≤ 2)) ∧ (0 ≤ X 3 ∧ X 3 ≤ 24) ∧ (0 ≤ X 4 ∧ X 4 ≤ 8) ∧ (0 ≤ X 5 ∧ X 5 ≤ 6) ∧ (0 ≤ X 6 ∧ X 6 ≤ 6)
  ∧ (∀ w : Nat, (w : Int) < X 3 → (1 ≤ X (7 + w) ∧ X (7 + w) ≤ 6) ∧ (0 ≤ X (175 + w) ∧ X (175 + w) ≤ 99) ∧ (X (199 + w) = 0 ∨ X (199 + w) = 1) ∧ ∀ i : Nat, (i : Int) < X (7 + w) → 97 ≤ X (31 + 6 * w + i) ∧ X (31 + 6 * w + i) ≤ 122)
  ∧ (∀ g : Nat, (g : Int) < X 4 → 0 ≤ X (295 + g) ∧ X (295 + g) ≤ 25)
  ∧ (∀ i : Nat, (i : Int) < X 5 → (0 ≤ X (303 + i) ∧ X (303 + i) ≤ 25) ∧ (1 ≤ X (309 + i) ∧ X (309 + i) ≤ 9))
  ∧ (∀ i : Nat, (i : Int) < X 6 → 0 ≤ X (315 + i) ∧ X (315 + i) < X 3)
  ∧ (∀ w : Nat, w < 24 → X 3 ≤ w → X (199 + w) = 0) ∧ (∀ g : Nat, (g : Int) < X 4 → 1 ≤ X (223 + g) ∧ X (223 + g) ≤ 8)
theorem okP_R {X : Nat → Int} (h : okP X) (h0 : X 0 ≠ 0) (h3 : X 3 ≠ 0) (h4 : X 4 ≠ 0) : okR X := by
  obtain ⟨a, b, c, d, e, f, g, i, j, _⟩ := h
  have q := a h0
  exact ⟨q.1, q.2.1, q.2.2, ⟨by omega, by omega⟩, ⟨by omega, by omega⟩, d, e, f, g, i, j⟩
/-! the class's draft -/
def cD (T : Nat → Int) (n : Nat) (X : Nat → Int) (ν : xM) : Prop := okP X ∧ (∀ j : Nat, 3 ≤ j → j < 7 → ν 1 j = X j) ∧ (X 0 ≠ 0 → ν 1 0 = X 0 ∧ ν 1 1 = X 1 ∧ ν 1 2 = X 2) ∧ ((X 0 = 0 → ν 35 7 = 0) ∧ (X 0 ≠ 0 → ν 35 7 = 1)) ∧ ((X 321 = 0 → ν 35 8 = 0) ∧ (X 321 ≠ 0 → ν 35 8 = 1))
  ∧ (∀ w : Nat, (w : Int) < X 3 → ν 2 w = X (7 + w) ∧ ν 3 w = X (175 + w) ∧ ν 30 w = X (199 + w) ∧ ∀ i : Nat, i < 6 → ν (5 + w) i = if (i : Int) < X (7 + w) then X (31 + 6 * w + i) - 97 else -1)
  ∧ (∀ g : Nat, (g : Int) < X 4 → ν 31 g = X (295 + g) ∧ ∃ s e : Nat, ν 37 g = s ∧ ν 38 g = e ∧ s ≤ e ∧ e ≤ n ∧ X (223 + g) = (e : Int) - s ∧ ∀ i, s + i < e → X (231 + 8 * g + i) = T (s + i))
  ∧ (∀ i : Nat, (i : Int) < X 5 → ν 32 i = X (303 + i) ∧ ν 33 i = X (309 + i))
  ∧ (∀ i : Nat, (i : Int) < X 6 → ν 34 i = X (315 + i))
def b30 (μ : xM) : Prop := ∀ w : Nat, w < 24 → μ 30 w = 0 ∨ μ 30 w = 1
def gC (μ ν : xM) : Prop := (∀ k, (k = 0 ∨ k = 36 ∨ 38 < k) → ν k = μ k) ∧ ν 35 0 = μ 35 0 ∧ (b30 μ → b30 ν)
def gD (μ ν : xM) : Prop := gC μ ν ∧ ν 35 1 = μ 35 1 ∧ ν 35 2 = μ 35 2 ∧ ν 35 9 = μ 35 9
theorem gC.tt {μ ν ω : xM} (h : gC μ ν) (h2 : gC ν ω) : gC μ ω := ⟨fun k a => (h2.1 k a).trans (h.1 k a), h2.2.1.trans h.2.1, fun z => h2.2.2 (h.2.2 z)⟩
theorem gD.rf (μ : xM) : gD μ μ := ⟨⟨fun _ _ => rfl, rfl, id⟩, rfl, rfl, rfl⟩
theorem gD.tt {μ ν ω : xM} (h : gD μ ν) (h2 : gD ν ω) : gD μ ω := ⟨h.1.tt h2.1, h2.2.1.trans h.2.1, h2.2.2.1.trans h.2.2.1, h2.2.2.2.trans h.2.2.2⟩
theorem gD.tp {T : Nat → Int} {n : Nat} {μ ν : xM} (h : gD μ ν) (t : tpe T n μ) : tpe T n ν := ⟨t.1, by rw [h.2.2.2]; exact t.2.1, fun i hi => by rw [h.1.1 36 (by omega)]; exact t.2.2.1 i hi, t.2.2.2⟩
def nT7 (μ ν : xM) : Prop := (∀ k, k ≠ 35 → ν k = μ k) ∧ (∀ j, ¬ (10 ≤ j ∧ j ≤ 13) → ν 35 j = μ 35 j)
theorem nS.T {μ ν : xM} (h : nS μ ν) : nT7 μ ν := ⟨h.1, fun j hj => h.2 j (by omega)⟩
theorem nT7.rf (μ : xM) : nT7 μ μ := ⟨fun _ _ => rfl, fun _ _ => rfl⟩
theorem nT7.tt {μ ν ω : xM} (h : nT7 μ ν) (h2 : nT7 ν ω) : nT7 μ ω := ⟨fun k a => (h2.1 k a).trans (h.1 k a), fun j a => (h2.2 j a).trans (h.2 j a)⟩
theorem nT7.g {μ ν : xM} (h : nT7 μ ν) : gD μ ν := ⟨⟨fun k hk => h.1 k (by omega), h.2 0 (by omega), fun z w hw => by rw [h.1 30 (by omega)]; exact z w hw⟩, h.2 1 (by omega), h.2 2 (by omega), h.2 9 (by omega)⟩
def flC (f : Int) (a : Nat) (μ ν : xM) : Prop := gC μ ν ∧ ν 35 1 = f ∧ ν 35 2 = a
theorem flC.p {f : Int} {a : Nat} {μ ν ω : xM} (h : flC f a ν ω) (g : gC μ ν) : flC f a μ ω := ⟨g.tt h.1, h.2⟩
def oC (T : Nat → Int) (n : Nat) (μ : xM) : pO → Int → xM → Prop
  | .inl q, r, ω => r = 0 ∧ flC q.1 q.2 μ ω
  | .inr q, r, ω => r = 1 ∧ gD μ ω ∧ cD T n q.1 ω ∧ tC T n q.2 ω
theorem cD.n {T : Nat → Int} {n : Nat} {X : Nat → Int} {μ ν : xM} (h : cD T n X μ) (s : nT7 μ ν) : cD T n X ν := by
  unfold cD at *
  rw [s.1 1 (by omega), s.1 2 (by omega), s.1 3 (by omega), s.1 30 (by omega), s.1 31 (by omega), s.1 32 (by omega), s.1 33 (by omega), s.1 34 (by omega), s.1 37 (by omega), s.1 38 (by omega), s.2 7 (by omega), s.2 8 (by omega)]
  obtain ⟨a, b, c, d, e, f, g⟩ := h
  refine ⟨a, b, c, d, e, fun w hw => ?_, g⟩
  have := a.2.1
  rw [s.1 (5 + w) (by omega)]; exact f w hw
/-! the class's small readers -/
theorem s_fl7 {f : Int} {a : Nat} {ν : xM} {Q : Int → xM → Prop} (ha : ν 35 11 = a) (hq : ∀ ω, flC f a ν ω → Q 0 ω) : tX5_fails f ν Q := by
  intro _ _
  refine wl fun _ => wl fun _ => hq _ ⟨⟨fun k hk => ?_, ?_, fun z w hw => ?_⟩, ?_, ?_⟩
  · funext j; rw [wi_cell (by omega), wi_cell (by omega)]
  · rw [wi_place (by omega), wi_place (by omega)]
  · rw [wi_cell (by omega), wi_cell (by omega)]; exact z w hw
  · rw [wi_place (by omega), wi_self]
  · rw [wi_self, wi_place (by omega)]; exact ha
theorem s_nx7 {T : Nat → Int} {n a : Nat} {ν : xM} {Q : xM → Prop} (t : tC T n a ν) (hq : ∀ ω, nS ν ω → tC T n (nxF T n a) ω → Q ω) : tX5_next ν Q := s_next t.1 t.2.2.2.1 (tkS7_le t.2.1).2.1 (fun ω s u => hq ω s u)
theorem s_reads {T : Nat → Int} {n a i : Nat} {ν : xM} {Q : Int → xM → Prop} (t : tC T n a ν) (h1 : isKw T n i a → Q 1 ν) (h0 : ¬ isKw T n i a → Q 0 ν) : tX5_reads i ν Q := by
  obtain ⟨tp, an, e1, e2, e0⟩ := t
  have n9 := tp.1
  have tl := tkS7_le (T := T) an
  intro _
  rw [e1, e2, e0]
  refine ⟨fun z => h0 (fun q => z q.1), fun k1 => ⟨⟨by omega, by omega⟩, fun el => ?_, fun z => h0 (fun q => z q.2.1)⟩⟩
  refine rd1 (n := sLen i) (fun l => ∀ k : Nat, (k : Int) < l → T (a + k) = sChr i k) (by omega) (fun k hk => by omega) ?_
  rintro l K l0 l1 hl hK
  obtain ⟨l, rfl⟩ : ∃ m : Nat, l = m := ⟨l.toNat, by omega⟩
  refine ⟨⟨by omega, by omega⟩, fun z => h1 ⟨k1, el, fun k hk => hl k (by omega)⟩, fun z => ⟨⟨by omega, by omega⟩, ?_⟩⟩
  rw [e1, show (a : Int) + (l : Int) = ((a + l : Nat) : Int) by omega]
  refine s_byte tp (by omega) (fun _ _ => ⟨⟨by omega, by omega⟩, fun q => hK (by omega) (fun k hk => ?_), fun q => h0 (fun y => q (y.2.2 l (by omega)))⟩)
  by_cases e : k = l
  · rw [e]; exact q
  · exact hl k (by omega)
theorem s_key {T : Nat → Int} {n a i : Nat} {ν : xM} {Q : Int → xM → Prop} {o : Nat → pO} (t : tC T n a ν) (h1 : ∀ ω, nT7 ν ω → tC T n (nxF T n a) ω → keyF T n i a o = o (nxF T n a) → Q 1 ω) (h0 : ∀ ω, flC 1 a ν ω → keyF T n i a o = bd 1 a → Q 0 ω) : tX5_readKey i ν Q := by
  intro _
  refine s_reads t (fun k _ _ => ⟨fun _ => s_nx7 t (fun ω s u _ => h1 ω s.T u (cI_y k)), fun z => absurd z (by decide)⟩) (fun k _ _ => ⟨fun z => absurd z (by decide), fun _ => s_fl7 t.2.2.1 (fun ω f _ _ => h0 ω f (cI_n k))⟩)
theorem dig_in {T : Nat → Int} {n a : Nat} (h : tkK T n a = 2) : tkS7 T n a ≤ a + 3 ∧ ∀ i, i < tkS7 T n a - a → 48 ≤ T (a + i) ∧ T (a + i) ≤ 57 := by
  unfold tkK at h
  by_cases c : a < n
  · rw [if_pos c] at h
    by_cases c1 : T a = 59
    · rw [if_pos c1] at h; exact absurd h (by decide)
    · rw [if_neg c1] at h
      by_cases c2 : T a = 44
      · rw [if_pos c2] at h; exact absurd h (by decide)
      · rw [if_neg c2] at h
        by_cases c3 : 97 ≤ T a ∧ T a ≤ 122
        · rw [if_pos c3] at h; split at h <;> exact absurd h (by decide)
        · rw [if_neg c3] at h
          by_cases c4 : 48 ≤ T a ∧ T a ≤ 57
          · rw [if_pos c4] at h
            have ks : tkS7 T n a = rnF T n 48 57 a := by unfold tkS7; rw [if_pos c, if_neg (by rintro (z | z) <;> omega), if_neg c3, if_pos c4]
            by_cases c5 : rnF T n 48 57 a ≤ a + 3
            · rw [ks]
              exact ⟨c5, fun i hi => ((rnF_is T n 48 57 a).2.1 (a + i) (by omega) (by omega)).2⟩
            · rw [if_neg c5] at h; exact absurd h (by decide)
          · rw [if_neg c4] at h; exact absurd h (by decide)
  · rw [if_neg c] at h; exact absurd h (by decide)
theorem wrd_in {T : Nat → Int} {n a : Nat} (h : tkK T n a = 1) : a < n ∧ a < tkS7 T n a ∧ tkS7 T n a ≤ a + 8 ∧ ∀ i, a + i < tkS7 T n a → 97 ≤ T (a + i) ∧ T (a + i) ≤ 122 := by
  unfold tkK at h
  by_cases c : a < n
  · rw [if_pos c] at h
    have tl := (tkS7_le (T := T) (n := n) (a := a) (by omega)).2.2 c
    by_cases c1 : T a = 59
    · rw [if_pos c1] at h; exact absurd h (by decide)
    · rw [if_neg c1] at h
      by_cases c2 : T a = 44
      · rw [if_pos c2] at h; exact absurd h (by decide)
      · rw [if_neg c2] at h
        by_cases c3 : 97 ≤ T a ∧ T a ≤ 122
        · rw [if_pos c3] at h
          have ks : tkS7 T n a = rnF T n 97 122 a := by unfold tkS7; rw [if_pos c, if_neg (by rintro (z | z) <;> omega), if_pos c3]
          by_cases c5 : rnF T n 97 122 a ≤ a + 8
          · refine ⟨c, tl, by omega, fun i hi => ?_⟩
            exact ((rnF_is T n 97 122 a).2.1 (a + i) (by omega) (by omega)).2
          · rw [if_neg c5] at h; exact absurd h (by decide)
        · rw [if_neg c3] at h
          by_cases c4 : 48 ≤ T a ∧ T a ≤ 57
          · rw [if_pos c4] at h; split at h <;> exact absurd h (by decide)
          · rw [if_neg c4] at h; exact absurd h (by decide)
  · rw [if_neg c] at h; exact absurd h (by decide)
theorem s_whole {T : Nat → Int} {n a : Nat} {lo hi : Int} {ν : xM} {Q : Int → xM → Prop} {o : Int → Nat → pO} (t : tC T n a ν)
    (h1 : ∀ ω, nT7 ν ω → tC T n (nxF T n a) ω → lo ≤ wvl T n a → wvl T n a ≤ hi → ω 35 13 = wvl T n a → numF T n lo hi a o = o (wvl T n a) (nxF T n a) → Q 1 ω)
    (h0 : ∀ ω f, flC f a ν ω → numF T n lo hi a o = bd f a → Q 0 ω) : tX5_readWhole lo hi ν Q := by
  have tp := t.1
  have an := t.2.1
  have n9 := tp.1
  have tl := tkS7_le (T := T) an
  intro _ _ _
  rw [t.2.2.2.2]
  refine ⟨fun k2 => wl fun _ => ?_, fun k2 => s_fl7 t.2.2.1 (fun ω f _ _ => h0 ω 1 f (cI_n k2))⟩
  have dg := dig_in k2
  rw [show wi ν 35 13 0 35 11 = a by rw [wi_place (by omega)]; exact t.2.2.1]
  refine up1 (n := (tkS7 T n a : Int)) (fun i ω => nT7 ν ω ∧ tC T n a ω ∧ ω 35 13 = whF T a (i - a).toNat) (by omega) ⟨?_, ⟨⟨n9, ?_, ?_, tp.2.2.2⟩, an, ?_, ?_, ?_⟩, ?_⟩ ?_
  · exact ⟨fun k hk => by funext j; exact wi_cell hk, fun j hj => wi_place (by omega)⟩
  · rw [wi_place (by omega)]; exact tp.2.1
  · intro i hi; rw [wi_cell (by omega)]; exact tp.2.2.1 i hi
  · rw [wi_place (by omega)]; exact t.2.2.1
  · rw [wi_place (by omega)]; exact t.2.2.2.1
  · rw [wi_place (by omega)]; exact t.2.2.2.2
  · rw [wi_self, Int.sub_self]; rfl
  rintro i ω K i0 i1 ⟨so, to, o13⟩ _ hK
  obtain ⟨i, rfl⟩ : ∃ m : Nat, i = m := ⟨i.toNat, by omega⟩
  have bb := whF_b (T := T) (a := a) ((i : Int) - a).toNat (fun k hk => dg.2 k (by omega)) (by omega)
  rw [to.2.2.2.1, o13]
  refine ⟨⟨by omega, by omega⟩, fun z => ?_, fun z => s_byte to.1 (by omega) (fun _ _ => ?_)⟩
  · have ev : whF T a ((i : Int) - a).toNat = wvl T n a := by unfold wvl; congr 1; omega
    rw [ev]
    rw [ev] at o13
    have bad : ¬ (lo ≤ wvl T n a ∧ wvl T n a ≤ hi) → tX5_fails 4 ω (fun r μ => (r = 0 ∨ r = 1) → xRan μ → Q r μ) := fun q => s_fl7 to.2.2.1 (fun χ f _ _ => h0 χ 4 (f.p so.g.1) (by unfold numF; rw [cI_y k2, cI_n q]))
    exact ⟨fun q => bad (by omega), fun q => ⟨fun q2 => s_nx7 to (fun χ s u _ => h1 χ (so.tt s.T) u (by omega) q2 (by rw [s.2 13 (by omega)]; exact o13) (by unfold numF; rw [cI_y k2, cI_y ⟨by omega, q2⟩])), fun q2 => bad (by omega)⟩⟩
  · have di := dg.2 (i - a) (by omega)
    rw [show a + (i - a) = i by omega] at di
    refine ⟨⟨by omega, by omega⟩, wl fun _ => hK _ (by omega) ⟨⟨fun k hk => ?_, fun j hj => ?_⟩, ⟨⟨n9, ?_, ?_, tp.2.2.2⟩, an, ?_, ?_, ?_⟩, ?_⟩⟩
    · rw [← so.1 k hk]; funext j; exact wi_cell hk
    · rw [wi_place (by omega)]; exact so.2 j hj
    · rw [wi_place (by omega)]; exact to.1.2.1
    · intro k hk; rw [wi_cell (by omega)]; exact to.1.2.2.1 k hk
    · rw [wi_place (by omega)]; exact to.2.2.1
    · rw [wi_place (by omega)]; exact to.2.2.2.1
    · rw [wi_place (by omega)]; exact to.2.2.2.2
    · rw [wi_self, show ((i : Int) + 1 - a).toNat = ((i : Int) - a).toNat + 1 by omega]
      show _ = 10 * whF T a ((i : Int) - a).toNat + T (a + ((i : Int) - a).toNat) - 48
      rw [show a + ((i : Int) - a).toNat = i by omega]; omega
