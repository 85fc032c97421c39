/-! THE INN'S ROW (R: the reference's 322 numbers) -/
/-- its numbers are within their bounds -/
def okR (R : Nat → Int) : Prop := (1 ≤ R 0 ∧ R 0 ≤ 3) ∧ (1 ≤ R 1 ∧ R 1 ≤ 6) ∧ (0 ≤ R 2 ∧ R 2 ≤ 2) ∧ (1 ≤ R 3 ∧ R 3 ≤ 24) ∧ (1 ≤ R 4 ∧ R 4 ≤ 8) ∧ (0 ≤ R 5 ∧ R 5 ≤ 6) ∧ (0 ≤ R 6 ∧ R 6 ≤ 6)
  ∧ (∀ w : Nat, (w : Int) < R 3 → (1 ≤ R (7 + w) ∧ R (7 + w) ≤ 6) ∧ (0 ≤ R (175 + w) ∧ R (175 + w) ≤ 99) ∧ (R (199 + w) = 0 ∨ R (199 + w) = 1) ∧ ∀ i : Nat, (i : Int) < R (7 + w) → 97 ≤ R (31 + 6 * w + i) ∧ R (31 + 6 * w + i) ≤ 122)
  ∧ (∀ g : Nat, (g : Int) < R 4 → 0 ≤ R (295 + g) ∧ R (295 + g) ≤ 25)
  ∧ (∀ i : Nat, (i : Int) < R 5 → (0 ≤ R (303 + i) ∧ R (303 + i) ≤ 25) ∧ (1 ≤ R (309 + i) ∧ R (309 + i) ≤ 9))
  ∧ (∀ i : Nat, (i : Int) < R 6 → 0 ≤ R (315 + i) ∧ R (315 + i) < R 3)
theorem okR.T {R : Nat → Int} (h : okR R) : 1 ≤ R 0 ∧ R 0 ≤ 3 := h.1
theorem okR.C {R : Nat → Int} (h : okR R) : 1 ≤ R 1 ∧ R 1 ≤ 6 := h.2.1
theorem okR.G {R : Nat → Int} (h : okR R) : 0 ≤ R 2 ∧ R 2 ≤ 2 := h.2.2.1
theorem okR.W {R : Nat → Int} (h : okR R) : 1 ≤ R 3 ∧ R 3 ≤ 24 := h.2.2.2.1
theorem okR.N {R : Nat → Int} (h : okR R) : 1 ≤ R 4 ∧ R 4 ≤ 8 := h.2.2.2.2.1
theorem okR.K {R : Nat → Int} (h : okR R) : 0 ≤ R 5 ∧ R 5 ≤ 6 := h.2.2.2.2.2.1
theorem okR.S {R : Nat → Int} (h : okR R) : 0 ≤ R 6 ∧ R 6 ≤ 6 := h.2.2.2.2.2.2.1
theorem okR.len {R : Nat → Int} (h : okR R) {w : Nat} (hw : (w : Int) < R 3) : 1 ≤ R (7 + w) ∧ R (7 + w) ≤ 6 := (h.2.2.2.2.2.2.2.1 w hw).1
theorem okR.val {R : Nat → Int} (h : okR R) {w : Nat} (hw : (w : Int) < R 3) : 0 ≤ R (175 + w) ∧ R (175 + w) ≤ 99 := (h.2.2.2.2.2.2.2.1 w hw).2.1
theorem okR.bar {R : Nat → Int} (h : okR R) {w : Nat} (hw : (w : Int) < R 3) : R (199 + w) = 0 ∨ R (199 + w) = 1 := (h.2.2.2.2.2.2.2.1 w hw).2.2.1
theorem okR.let {R : Nat → Int} (h : okR R) {w i : Nat} (hw : (w : Int) < R 3) (hi : (i : Int) < R (7 + w)) : 97 ≤ R (31 + 6 * w + i) ∧ R (31 + 6 * w + i) ≤ 122 := (h.2.2.2.2.2.2.2.1 w hw).2.2.2 i hi
theorem okR.fst {R : Nat → Int} (h : okR R) {g : Nat} (hg : (g : Int) < R 4) : 0 ≤ R (295 + g) ∧ R (295 + g) ≤ 25 := h.2.2.2.2.2.2.2.2.1 g hg
theorem okR.lik {R : Nat → Int} (h : okR R) {i : Nat} (hi : (i : Int) < R 5) : (0 ≤ R (303 + i) ∧ R (303 + i) ≤ 25) ∧ (1 ≤ R (309 + i) ∧ R (309 + i) ≤ 9) := h.2.2.2.2.2.2.2.2.2.1 i hi
theorem okR.see {R : Nat → Int} (h : okR R) {i : Nat} (hi : (i : Int) < R 6) : 0 ≤ R (315 + i) ∧ R (315 + i) < R 3 := h.2.2.2.2.2.2.2.2.2.2 i hi
/-! growing: the letter by which one word becomes another -/
def wordF (R : Nat → Int) (w : Int) : Prop := 0 ≤ w ∧ w < R 3
def goodF (R : Nat → Int) (w : Nat) : Prop := (w : Int) < R 3 ∧ R (199 + w) = 0 ∧ R (7 + w) ≤ R 1
def goodI (R : Nat → Int) (w : Int) : Prop := wordF R w ∧ R (199 + w.toNat) = 0 ∧ R (7 + w.toNat) ≤ R 1
def woF (R : Nat → Int) (v p w : Nat) : Prop := ∀ k : Nat, (k : Int) < R (7 + w) → R (31 + 6 * v + (if k < p then k else k + 1)) = R (31 + 6 * w + k)
def mayF (R : Nat → Int) (p : Nat) (n : Int) : Prop := R 2 = 0 ∨ (p : Int) + 1 = n ∨ (R 2 = 1 ∧ p = 0)
noncomputable def scanF (P : Nat → Prop) (f : Nat → Int) : Nat → Nat → Int
  | 0, _ => -1
  | m + 1, p => @ite _ (P p) (Classical.propDecidable _) (f p) (scanF P f m (p + 1))
noncomputable def wvF (R : Nat → Int) (w v : Nat) : Int :=
  if w = 24 then (if R (7 + v) = 1 then R (31 + 6 * v) - 97 else -1)
  else if R (7 + v) = R (7 + w) + 1 then scanF (fun p => mayF R p (R (7 + v)) ∧ woF R v p w) (fun p => R (31 + 6 * v + p) - 97) (R (7 + v)).toNat 0 else -1
noncomputable def byF (R : Nat → Int) (w v : Nat) : Int := @ite _ ((w = 24 ∨ goodF R w) ∧ goodF R v) (Classical.propDecidable _) (wvF R w v) (-1)
noncomputable def upsF (R : Nat → Int) (w : Nat) : List Nat := (List.range 24).filter (fun v => decide (0 ≤ byF R w v))
noncomputable def downsF (R : Nat → Int) (v : Nat) : List Nat := (List.range 25).filter (fun w => decide (0 ≤ byF R w v))
theorem scanF_yes {P : Nat → Prop} {f : Nat → Int} {m p : Nat} (h : P p) : scanF P f (m + 1) p = f p := by simp [scanF, h]
theorem scanF_no {P : Nat → Prop} {f : Nat → Int} {m p : Nat} (h : ¬ P p) : scanF P f (m + 1) p = scanF P f m (p + 1) := by simp [scanF, h]
theorem scanF_rng {P : Nat → Prop} {f : Nat → Int} (n : Nat) (hf : ∀ p, p < n → 0 ≤ f p ∧ f p ≤ 25) : ∀ m p : Nat, p + m ≤ n → -1 ≤ scanF P f m p ∧ scanF P f m p ≤ 25 := by
  intro m
  induction m with
  | zero => intro p _; simp [scanF]
  | succ m ih =>
    intro p hp
    by_cases c : P p
    · rw [scanF_yes c]; have := hf p (by omega); omega
    · rw [scanF_no c]; exact ih (p + 1) (by omega)
theorem goodI_nat {R : Nat → Int} {w : Int} (h0 : 0 ≤ w) : goodI R w ↔ goodF R w.toNat := by
  unfold goodI goodF wordF
  constructor
  · rintro ⟨⟨a, b⟩, c, d⟩; exact ⟨by omega, c, d⟩
  · rintro ⟨a, c, d⟩; exact ⟨⟨h0, by omega⟩, c, d⟩
theorem byF_yes {R : Nat → Int} {w v : Nat} (h : w = 24 ∨ goodF R w) (h2 : goodF R v) : byF R w v = wvF R w v := by simp [byF, h, h2]
theorem byF_no {R : Nat → Int} {w v : Nat} (h : ¬ ((w = 24 ∨ goodF R w) ∧ goodF R v)) : byF R w v = -1 := by simp [byF, h]
theorem byF_rng {R : Nat → Int} (hR : okR R) (w v : Nat) : -1 ≤ byF R w v ∧ byF R w v ≤ 25 := by
  by_cases h : (w = 24 ∨ goodF R w) ∧ goodF R v
  · rw [byF_yes h.1 h.2]
    have hv := hR.len h.2.1
    unfold wvF
    split
    · split
      · have := hR.let (i := 0) h.2.1 (by omega); rw [Nat.add_zero] at this; omega
      · omega
    · split
      · refine scanF_rng (R (7 + v)).toNat (fun p hp => ?_) _ _ (by omega)
        have := hR.let (i := p) h.2.1 (by omega); omega
      · omega
  · rw [byF_no h]; omega
theorem byF_ge {R : Nat → Int} {w v : Nat} (h : 0 ≤ byF R w v) : goodF R v ∧ ((w = 24 ∧ R (7 + v) = 1) ∨ (w ≠ 24 ∧ goodF R w ∧ R (7 + v) = R (7 + w) + 1)) := by
  by_cases c : (w = 24 ∨ goodF R w) ∧ goodF R v
  · rw [byF_yes c.1 c.2] at h
    refine ⟨c.2, ?_⟩
    by_cases hw : w = 24
    · left
      refine ⟨hw, ?_⟩
      by_cases d : R (7 + v) = 1
      · exact d
      · simp [wvF, hw, d] at h
    · right
      refine ⟨hw, c.1.resolve_left hw, ?_⟩
      by_cases d : R (7 + v) = R (7 + w) + 1
      · exact d
      · simp [wvF, hw, d] at h
  · rw [byF_no c] at h; omega
/-- what growing depends on -/
theorem goodF_c {R S : Nat → Int} (h : ∀ j, j < 223 → S j = R j) {w : Nat} (hw : w < 24) : goodF S w ↔ goodF R w := by
  unfold goodF
  rw [h 3 (by omega), h 1 (by omega), h (199 + w) (by omega), h (7 + w) (by omega)]
theorem byF_c {R S : Nat → Int} (hR : okR R) (h : ∀ j, j < 223 → S j = R j) {w v : Nat} (hw : w ≤ 24) (hv : v < 24) : byF S w v = byF R w v := by
  have hg : goodF S v ↔ goodF R v := goodF_c h hv
  have hgw : (w = 24 ∨ goodF S w) ↔ (w = 24 ∨ goodF R w) := by
    by_cases e : w = 24
    · simp [e]
    · simp [e, goodF_c h (show w < 24 by omega)]
  by_cases c : (w = 24 ∨ goodF R w) ∧ goodF R v
  · rw [byF_yes c.1 c.2, byF_yes (hgw.2 c.1) (hg.2 c.2)]
    unfold wvF
    rw [h (7 + v) (by omega), h (31 + 6 * v) (by omega)]
    by_cases e : w = 24
    · simp [e]
    · rw [if_neg e, if_neg e, h (7 + w) (by omega)]
      have bv := hR.len c.2.1
      split
      · rename_i hl
        have : ∀ m p : Nat, p + m = (R (7 + v)).toNat → scanF (fun p => mayF S p (R (7 + v)) ∧ woF S v p w) (fun p => S (31 + 6 * v + p) - 97) m p = scanF (fun p => mayF R p (R (7 + v)) ∧ woF R v p w) (fun p => R (31 + 6 * v + p) - 97) m p := by
          intro m
          induction m with
          | zero => intros; rfl
          | succ m ih =>
            intro p hp
            have q : (mayF S p (R (7 + v)) ∧ woF S v p w) ↔ (mayF R p (R (7 + v)) ∧ woF R v p w) := by
              unfold mayF woF
              rw [h 2 (by omega), h (7 + w) (by omega)]
              refine and_congr Iff.rfl (forall_congr' fun k => imp_congr_right fun hk => ?_)
              have q1 : (if k < p then k else k + 1) < 6 := by split <;> omega
              rw [h (31 + 6 * v + (if k < p then k else k + 1)) (by omega), h (31 + 6 * w + k) (by omega)]
            by_cases d : mayF R p (R (7 + v)) ∧ woF R v p w
            · rw [scanF_yes (P := fun p => mayF R p (R (7 + v)) ∧ woF R v p w) d, scanF_yes (P := fun p => mayF S p (R (7 + v)) ∧ woF S v p w) (q.2 d), h _ (by omega)]
            · rw [scanF_no (P := fun p => mayF R p (R (7 + v)) ∧ woF R v p w) d, scanF_no (P := fun p => mayF S p (R (7 + v)) ∧ woF S v p w) (fun z => d (q.1 z)), ih (p + 1) (by omega)]
        exact this _ 0 (by omega)
      · rfl
  · rw [byF_no c, byF_no (fun z => c ⟨hgw.1 z.1, hg.1 z.2⟩)]
/-! chains, grundies, rises: what they are of what a word becomes -/
def mxL (f : Nat → Int) (l : List Nat) : Int := l.foldl (fun a v => max a (f v)) 0
def mnL (f : Nat → Int) (a : Int) (l : List Nat) : Int := l.foldl (fun a w => if w = 24 then a else min a (f w)) a
def setL (c : Nat → Int) (l : List Nat) : Int := l.foldl (fun a v => xOr a (xShl 1 (c v))) 0
def mexN (s : Int) : Nat → Nat → Nat
  | 0, k => k
  | m + 1, k => if xAnd (xShr s (k : Int)) 1 = 1 then mexN s m (k + 1) else k
def mexF (s : Int) : Int := mexN s 31 0
def isChain (R c : Nat → Int) : Prop := ∀ w : Nat, (w : Int) < R 3 → c w = mxL (fun v => c v + 1) (upsF R w)
def isNim (R c : Nat → Int) : Prop := ∀ w : Nat, ((w : Int) < R 3 ∨ w = 24) → c w = mexF (setL c (upsF R w)) ∧ 0 ≤ c w ∧ c w ≤ 6
def isRise (R c : Nat → Int) : Prop := ∀ v : Nat, (v : Int) < R 3 → c v = mnL c (R (7 + v)) (downsF R v)
theorem upsF_mem {R : Nat → Int} {w v : Nat} : v ∈ upsF R w ↔ v < 24 ∧ 0 ≤ byF R w v := by simp [upsF]
theorem downsF_mem {R : Nat → Int} {w v : Nat} : w ∈ downsF R v ↔ w < 25 ∧ 0 ≤ byF R w v := by simp [downsF]
theorem foldl_c {α β : Type} {f g : α → β → α} : ∀ (l : List β) (a : α), (∀ x y, y ∈ l → f x y = g x y) → l.foldl f a = l.foldl g a := by
  intro l
  induction l with
  | nil => intros; rfl
  | cons y l ih =>
    intro a h
    simp only [List.foldl_cons]
    rw [h a y (by simp)]
    exact ih _ (fun x z hz => h x z (by simp [hz]))
theorem isChain_u {R c d : Nat → Int} (hR : okR R) (hc : isChain R c) (hd : isChain R d) : ∀ w : Nat, (w : Int) < R 3 → c w = d w := by
  have hW := hR.W
  have : ∀ n w : Nat, (w : Int) < R 3 → 6 - R (7 + w) ≤ n → c w = d w := by
    intro n
    induction n with
    | zero =>
      intro w hw hn
      rw [hc w hw, hd w hw]
      refine foldl_c _ _ (fun x v hv => ?_)
      show max x (c v + 1) = max x (d v + 1)
      have := byF_ge (upsF_mem.1 hv).2
      have h1 := hR.len this.1.1
      rcases this.2 with q | q <;> omega
    | succ n ih =>
      intro w hw hn
      rw [hc w hw, hd w hw]
      refine foldl_c _ _ (fun x v hv => ?_)
      show max x (c v + 1) = max x (d v + 1)
      have q := byF_ge (upsF_mem.1 hv).2
      have h1 := hR.len hw
      rw [ih v q.1.1 (by rcases q.2 with q | q <;> omega)]
  intro w hw
  exact this 6 w hw (by have := hR.len hw; omega)
theorem isNim_u {R c d : Nat → Int} (hR : okR R) (hc : isNim R c) (hd : isNim R d) : ∀ w : Nat, ((w : Int) < R 3 ∨ w = 24) → c w = d w := by
  have hW := hR.W
  have : ∀ n w : Nat, (w : Int) < R 3 → 6 - R (7 + w) ≤ n → c w = d w := by
    intro n
    induction n with
    | zero =>
      intro w hw hn
      rw [(hc w (Or.inl hw)).1, (hd w (Or.inl hw)).1]
      congr 1
      refine foldl_c _ _ (fun x v hv => ?_)
      have := byF_ge (upsF_mem.1 hv).2
      have h1 := hR.len this.1.1
      rcases this.2 with q | q <;> omega
    | succ n ih =>
      intro w hw hn
      rw [(hc w (Or.inl hw)).1, (hd w (Or.inl hw)).1]
      congr 1
      refine foldl_c _ _ (fun x v hv => ?_)
      have q := byF_ge (upsF_mem.1 hv).2
      have h1 := hR.len hw
      rw [ih v q.1.1 (by rcases q.2 with q | q <;> omega)]
  intro w hw
  rcases hw with hw | hw
  · exact this 6 w hw (by have := hR.len hw; omega)
  · rw [(hc w (Or.inr hw)).1, (hd w (Or.inr hw)).1]
    congr 1
    refine foldl_c _ _ (fun x v hv => ?_)
    have q := byF_ge (upsF_mem.1 hv).2
    rw [this 6 v q.1.1 (by have := hR.len q.1.1; omega)]
theorem isRise_u {R c d : Nat → Int} (hR : okR R) (hc : isRise R c) (hd : isRise R d) : ∀ w : Nat, (w : Int) < R 3 → c w = d w := by
  have hW := hR.W
  have : ∀ n w : Nat, (w : Int) < R 3 → R (7 + w) ≤ n → c w = d w := by
    intro n
    induction n with
    | zero => intro w hw hn; have := hR.len hw; omega
    | succ n ih =>
      intro w hw hn
      rw [hc w hw, hd w hw]
      refine foldl_c _ _ (fun x v hv => ?_)
      by_cases e : v = 24
      · simp [e]
      · have q := (byF_ge (downsF_mem.1 hv).2).2
        simp only [e, if_false]
        rw [ih v (by rcases q with q | q; omega; exact q.2.1.1) (by rcases q with q | q <;> omega)]
  intro w hw
  exact this 6 w hw (by have := hR.len hw; omega)
