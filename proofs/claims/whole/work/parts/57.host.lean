/-! who sits where: the best of all that a guest can do -/
def sT (f : Nat → Nat) (t v : Nat) : Nat → Nat := fun j => if t = j then v else f j
abbrev oS : Type := Option (Nat × Nat × Int)
def bst1 (S : Nat → Nat → Int) (t : Nat) (s : oS) (v : Nat) : oS :=
  match s with
  | none => some (t, v, S t v)
  | some p => if p.2.2 < S t v then some (t, v, S t v) else some p
def bstT (S : Nat → Nat → Int) (t : Nat) (l : List Nat) (s : oS) : oS := l.foldl (bst1 S t) s
theorem bstT_snoc {S : Nat → Nat → Int} {t : Nat} {l : List Nat} {s : oS} {v : Nat} : bstT S t (l ++ [v]) s = bst1 S t (bstT S t l s) v := by simp [bstT]
noncomputable def bstN (R : Nat → Int) (x : Int) (S : Nat → Nat → Int) (f : Nat → Nat) : Nat → oS
  | 0 => none
  | t + 1 => bstT S t (upsBy R (f t) x) (bstN R x S f t)
noncomputable def scF (R C : Nat → Int) (host : Int) (n : Nat) (f : Nat → Nat) (t v : Nat) : Int :=
  if host = 1 then C v else if host = 2 then R (175 + v) - (if f t = 24 then 0 else R (175 + f t)) else if host = 3 then 1 + mostF R n (sT f t v 0) (sT f t v 1) (sT f t v 2) else 0
noncomputable def resF (R C : Nat → Int) (host : Int) (g : Nat) (f : Nat → Nat) : Option (Nat × Nat) :=
  match bstN R (R (295 + g)) (scF R C host ((R 4).toNat - (g + 1)) f) f (R 0).toNat with
  | none => none
  | some p => if host = 3 ∧ p.2.2 < mostF R ((R 4).toNat - (g + 1)) (f 0) (f 1) (f 2) then none else some (p.1, p.2.1)
def e1 (s : oS) : Int := match s with | none => -1 | some p => p.1
def e2 (s : oS) : Int := match s with | none => -1 | some p => p.2.1
def e3 (s : oS) : Int := match s with | none => 0 | some p => p.2.2
def eC (f : Nat → Nat) (s : oS) : Int := match s with | none => -1 | some p => wt (f 0) (f 1) (f 2) p.1 p.2.1
def okS (R : Nat → Int) (x : Int) (f : Nat → Nat) (s : oS) : Prop := ∀ p, s = some p → (p.1 : Int) < R 0 ∧ byF R (f p.1) p.2.1 = x ∧ p.2.1 < 24 ∧ xIn p.2.2
theorem okS_1 {R : Nat → Int} {x : Int} {f : Nat → Nat} {S : Nat → Nat → Int} {t v : Nat} {s : oS} (h : okS R x f s) (ht : (t : Int) < R 0) (hv : byF R (f t) v = x) (hv2 : v < 24) (hS : xIn (S t v)) : okS R x f (bst1 S t s v) := by
  intro p hp
  cases s with
  | none =>
    simp only [bst1, Option.some.injEq] at hp
    subst hp
    exact ⟨ht, hv, hv2, hS⟩
  | some q =>
    simp only [bst1] at hp
    split at hp
    · simp only [Option.some.injEq] at hp
      subst hp
      exact ⟨ht, hv, hv2, hS⟩
    · exact h p hp
theorem okS_T {R : Nat → Int} {x : Int} {f : Nat → Nat} {S : Nat → Nat → Int} {t : Nat} (ht : (t : Int) < R 0) : ∀ (l : List Nat) (s : oS), okS R x f s → (∀ v ∈ l, byF R (f t) v = x ∧ v < 24 ∧ xIn (S t v)) → okS R x f (bstT S t l s) := by
  intro l
  induction l with
  | nil => intro s h _; exact h
  | cons v l ih =>
    intro s h hl
    have q := hl v (by simp)
    exact ih _ (okS_1 h ht q.1 q.2.1 q.2.2) (fun u hu => hl u (by simp [hu]))
theorem okS.in1 {R : Nat → Int} {x : Int} {f : Nat → Nat} {s : oS} (hR : okR R) (h : okS R x f s) : -1 ≤ e1 s ∧ e1 s < 3 ∧ -1 ≤ e2 s ∧ e2 s < 24 ∧ xIn (e3 s) := by
  have bT := hR.T
  cases s with
  | none => exact ⟨by decide, by decide, by decide, by decide, xIn0⟩
  | some p =>
    obtain ⟨h1, _, h3, h4⟩ := h p rfl
    refine ⟨?_, ?_, ?_, ?_, h4⟩ <;> simp only [e1, e2] <;> omega
theorem upsBy_ok {R : Nat → Int} {w v : Nat} {x : Int} (h : v ∈ upsBy R w x) : byF R w v = x ∧ v < 24 ∧ 0 ≤ byF R w v := by
  have q := upsBy_mem.1 h
  have q2 := upsF_mem.1 q.1
  exact ⟨q.2, q2.1, q2.2⟩
theorem scF_in {R C : Nat → Int} {host : Int} {n : Nat} {f : Nat → Nat} {t v : Nat} (hR : okR R) (hC : xIn (C v)) (hv : (v : Int) < R 3) (hf : f t = 24 ∨ ((f t : Nat) : Int) < R 3) (hn : n ≤ 8) : xIn (scF R C host n f t v) := by
  unfold scF
  split
  · exact hC
  · split
    · have a := hR.val hv
      split
      · unfold xIn; omega
      · have b := hR.val (w := f t) (by omega)
        unfold xIn; omega
    · split
      · have := mostF_rng (R := R) n (sT f t v 0) (sT f t v 1) (sT f t v 2)
        unfold xIn; omega
      · exact xIn0
theorem byF_word {R : Nat → Int} {w v : Nat} (h : 0 ≤ byF R w v) : (v : Int) < R 3 := (byF_ge h).1.1
/-! a night of the class -/
def isNt (μ : xM) (o : Nat) (host : Int) (f : Nat → Nat) (g : Int) (s : Int) : Prop := (∀ t : Nat, t < 3 → μ (o + 1) t = f t) ∧ μ o 0 = host ∧ μ o 1 = g ∧ μ o 2 = s
def fOK (R : Nat → Int) (f : Nat → Nat) (g : Int) : Prop := nOK R (fun j => (f j : Int)) g
theorem fOK.le {R : Nat → Int} {f : Nat → Nat} {g : Int} (h : fOK R f g) (t : Nat) (ht : t < 3) : f t ≤ 24 ∧ (f t = 24 ∨ goodF R (f t)) ∧ (R 0 ≤ t → f t = 24) := by
  have q := h.1 t ht
  simp only [Int.toNat_natCast] at q
  refine ⟨by omega, ?_, fun z => by have := q.2.2.2 z; omega⟩
  rcases q.2.2.1 with z | z
  · left; omega
  · right; exact z
theorem fOK.vt {R : Nat → Int} {f : Nat → Nat} {g : Int} (h : fOK R f g) : vtF R (f 1) (f 2) := ⟨fun z => (h.le 1 (by omega)).2.2 (by omega), fun z => (h.le 2 (by omega)).2.2 (by omega)⟩
theorem sT_set (f : Nat → Nat) (t v : Nat) : setT (fun j => (f j : Int)) t v = fun j => ((sT f t v j : Nat) : Int) := by
  funext j
  unfold setT sT
  by_cases e : j = t
  · rw [if_pos e, if_pos e.symm]
  · rw [if_neg e, if_neg (fun z => e z.symm)]
theorem fOK.grow {R : Nat → Int} {f : Nat → Nat} {n : Int} {t v : Nat} (hR : okR R) (h : fOK R f n) (hn : 0 ≤ n) (hn2 : n < R 4) (ht : (t : Int) < R 0) (hv : byF R (f t) v = R (295 + n.toNat)) : fOK R (sT f t v) (n + 1) := by
  unfold fOK
  rw [← sT_set]
  exact nOK.grow hR h hn hn2 ht (by simpa using hv)
theorem s_inTheEnd {μ : xM} {o : Nat} {t host s : Int} {v n : Nat} {f F : Nat → Nat} {g : Int} {Q : Int → xM → Prop} (h : iOpW μ) (hs : iSit μ) (hN : isNt μ o host f g s) (g0 : 0 ≤ g) (hn : g + 1 + n = μ 263 4) (hv : v ≤ 24) (hF : ∀ j : Nat, j < 3 → F j = if (j : Int) = t then v else f j) (hF2 : ∀ j : Nat, j < 3 → F j ≤ 24) (hv2 : vtF (μ 263) (F 1) (F 2))
    (hq : ∀ ν, futS μ ν → Q (mostF (μ 263) n (F 0) (F 1) (F 2)) ν) : tX0_behindNext o t v μ Q := by
  have bN := h.2.1.N
  obtain ⟨n1, _, n2, _⟩ := hN
  have a0 : μ (o + 1) 0 = f 0 := n1 0 (by omega)
  have a1 : μ (o + 1) 1 = f 1 := n1 1 (by omega)
  have a2 : μ (o + 1) 2 = f 2 := n1 2 (by omega)
  have f0 := hF 0 (by omega)
  have f1 := hF 1 (by omega)
  have f2 := hF 2 (by omega)
  have l0 := hF2 0 (by omega)
  have xa : xIn (μ o 1 + 1) := ⟨by omega, by omega⟩
  have key : ∀ a b c : Int, a = F 0 → b = F 1 → c = F 2 → tX0_mostFrom 12 (μ o 1 + 1) a b c μ (fun r ν => xIn r → xRan ν → Q r ν) := by
    intro a b c ha hb hc
    subst ha hb hc
    exact w_mostFrom n 12 (by omega) _ _ _ _ μ _ h hs (by omega) (by omega) l0 (hF2 1 (by omega)) (hF2 2 (by omega)) hv2 (fun ν f _ _ => hq ν f)
  have b23 : ∀ a : Int, a = F 0 → tX0_behindNext_b20 o t v (μ o 1 + 1) a μ Q := by
    intro a ha _
    have xa2 : xIn a := ⟨by omega, by omega⟩
    refine ⟨fun q => s_at (fun _ _ _ _ => ⟨fun q2 => s_at (fun _ _ _ _ => ⟨xa, xa2, key _ _ _ ha ?_ ?_⟩) (fun z => absurd ⟨by decide, by decide⟩ z), fun q2 => ⟨xa, xa2, key _ _ _ ha ?_ ?_⟩⟩) (fun z => absurd ⟨by decide, by decide⟩ z), fun q => ⟨fun q2 => s_at (fun _ _ _ _ => ⟨xa, xa2, key _ _ _ ha ?_ ?_⟩) (fun z => absurd ⟨by decide, by decide⟩ z), fun q2 => by omega⟩⟩
    · show μ (o + 1) 1 = _
      rw [f1, if_neg (by omega)]; exact a1
    · show μ (o + 1) 2 = _
      rw [f2, if_neg (by omega)]; exact a2
    · show μ (o + 1) 1 = _
      rw [f1, if_neg (by omega)]; exact a1
    · rw [f2, if_pos (by omega)]
    · rw [f1, if_pos (by omega)]
    · show μ (o + 1) 2 = _
      rw [f2, if_neg (by omega)]; exact a2
  intro _ _ _
  refine ⟨fun q => s_at (fun _ _ _ _ => b23 _ ?_) (fun z => absurd ⟨by decide, by decide⟩ z), fun q => b23 _ ?_⟩
  · show μ (o + 1) 0 = _
    rw [f0, if_neg (by omega)]; exact a0
  · rw [f0, if_pos (by omega)]
theorem isNt.fut {μ ν : xM} {o : Nat} {host g s : Int} {f : Nat → Nat} (h : isNt μ o host f g s) (ho : 240 ≤ o) (h2 : futS μ ν) : isNt ν o host f g s := by
  unfold isNt at *
  rw [h2.1 o (by omega) (by omega), h2.1 (o + 1) (by omega) (by omega)]
  exact h
theorem s_scoreOf {μ : xM} {o : Nat} {host s g : Int} {t v n : Nat} {f : Nat → Nat} {Q : Int → xM → Prop} (h : iOpW μ) (hs : iSit μ) (hN : isNt μ o host f g s) (hf : fOK (μ 263) f g) (g0 : 0 ≤ g) (hn : g + 1 + n = μ 263 4) (h0 : 0 ≤ host) (h3 : host ≤ 3) (ht : (t : Int) < μ 263 0) (hv : (v : Int) < μ 263 3)
    (hq : ∀ ν, futS μ ν → Q (scF (μ 263) (μ 268) host n f t v) ν) : tX8_scoreOf o t v μ Q := by
  have bT := h.2.1.T
  have bW := h.2.1.W
  have rf := futS.rf hs
  have hh := hN.2.1
  have ft := hf.le t (by omega)
  intro _ _ _
  rw [hh]
  refine ⟨fun q => s_chainOf (by omega) (by omega) (fun _ _ => ?_), fun q => w_val h (fun _ _ _ => s_at (fun _ _ _ _ => w_val h (fun q2 _ _ => ⟨?_, ?_⟩) (fun q2 _ _ => ⟨?_, ?_⟩)) (fun z => absurd ⟨by omega, by omega⟩ z)) (fun z => absurd ⟨by omega, hv⟩ z), fun q => s_inTheEnd (F := sT f t v) h hs hN g0 hn (by omega) ?_ ?_ ?_ (fun ν f1 _ _ => ⟨?_, ?_⟩), fun q => ?_⟩
  · have := hq μ rf
    unfold scF at this
    rw [if_pos q] at this
    rw [Int.toNat_natCast, (h.2.2.2.2.2.2.2.2.1 v hv).1]
    exact this
  · have c1 := h.2.1.val (w := v) hv
    have c2 := h.2.1.val (w := (μ (o + 1) (t : Int).toNat).toNat) (by have := q2.1; have := q2.2; omega)
    rw [Int.toNat_natCast v]
    unfold xIn; omega
  · have e : μ (o + 1) t = f t := hN.1 t (by omega)
    have := hq μ rf
    unfold scF at this
    rw [if_neg (by omega), if_pos q, if_neg (by have := q2.2; rw [Int.toNat_natCast, e] at this; omega)] at this
    rw [Int.toNat_natCast, Int.toNat_natCast, e, Int.toNat_natCast]
    exact this
  · have c1 := h.2.1.val (w := v) hv
    rw [Int.toNat_natCast v]
    unfold xIn; omega
  · have e : μ (o + 1) t = f t := hN.1 t (by omega)
    have := hq μ rf
    unfold scF at this
    have e24 : f t = 24 := by
      rcases ft.2.1 with z | z
      · exact z
      · exfalso
        apply q2
        rw [Int.toNat_natCast, e]
        exact ⟨by omega, z.1⟩
    rw [if_neg (by omega), if_pos q, if_pos e24] at this
    rw [Int.toNat_natCast]
    exact this
  · intro j _
    unfold sT
    by_cases e : t = j
    · rw [if_pos e, if_pos (by omega)]
    · rw [if_neg e, if_neg (by omega)]
  · intro j hj
    unfold sT
    split
    · omega
    · exact (hf.le j hj).1
  · have vt := hf.vt
    refine ⟨fun z => ?_, fun z => ?_⟩
    · unfold sT; rw [if_neg (by omega)]; exact vt.1 z
    · unfold sT; rw [if_neg (by omega)]; exact vt.2 z
  · have := mostF_rng (R := μ 263) n (sT f t v 0) (sT f t v 1) (sT f t v 2)
    have := h.2.1.N
    unfold xIn; omega
  · have := hq ν f1
    unfold scF at this
    rw [if_neg (by omega), if_neg (by omega), if_pos q] at this
    exact this
  · have := hq μ rf
    unfold scF at this
    rw [if_neg (by omega), if_neg (by omega), if_neg (by omega)] at this
    exact this
