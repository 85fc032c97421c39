/-! stairs: a search by steps back -/
def ptS (μ ν : xM) : Prop := (∀ k, k ≠ 236 → ¬ (243 ≤ k ∧ k ≤ 246) → ν k = μ k) ∧ (∀ j, j ≠ 9 → j ≠ 10 → ν 236 j = μ 236 j)
theorem ptS.rf (μ : xM) : ptS μ μ := ⟨fun _ _ _ => rfl, fun _ _ _ => rfl⟩
theorem ptS.tt {μ ν ω : xM} (h : ptS μ ν) (h2 : ptS ν ω) : ptS μ ω := ⟨fun k a b => (h2.1 k a b).trans (h.1 k a b), fun j a b => (h2.2 j a b).trans (h.2 j a b)⟩
def Sch (P now lat : List Nat) (ν : xM) : Prop :=
  ((ν 236 5 = 243 ∧ ν 236 6 = 244) ∨ (ν 236 5 = 244 ∧ ν 236 6 = 243)) ∧ ν 236 9 = now.length ∧ rowL (ν (ν 236 5).toNat) now ∧ ν 236 10 = lat.length ∧ rowL (ν (ν 236 6).toNat) lat
  ∧ (∀ x, x < 15625 → (inB (ν 245) x ↔ x ∈ P ∨ x ∈ now)) ∧ (P ++ now).Nodup ∧ (∀ x ∈ P ++ now, x < 15625)
  ∧ lat.Nodup ∧ (∀ x ∈ lat, x < 15625 ∧ inB (ν 246) x) ∧ (∀ x, x < 15625 → inB (ν 246) x → x ∈ lat ∨ x ∈ P ∨ x ∈ now)
theorem lay_ab : lay 243 = (1, 15625, []) ∧ lay 244 = (1, 15625, []) := by decide +kernel
theorem Sch.ly {P now lat : List Nat} {ν : xM} (h : Sch P now lat ν) : (lay (ν 236 5).toNat = (1, 15625, []) ∧ (ν 236 5).toNat < 281) ∧ (lay (ν 236 6).toNat = (1, 15625, []) ∧ (ν 236 6).toNat < 281) := by
  rcases h.1 with z | z <;> rw [z.1, z.2]
  · exact ⟨⟨lay_ab.1, by decide⟩, ⟨lay_ab.2, by decide⟩⟩
  · exact ⟨⟨lay_ab.2, by decide⟩, ⟨lay_ab.1, by decide⟩⟩
theorem s_putNow {ν : xM} {P now lat : List Nat} {x : Nat} {Q : xM → Prop} (h : Sch P now lat ν) (hx : x < 15625) (hqY : x ∈ P ∨ x ∈ now → Q ν)
    (hqN : ¬ (x ∈ P ∨ x ∈ now) → ∀ ω : xM, Sch P (now ++ [x]) lat ω → ptS ν ω → ω 246 = ν 246 → (∀ k j, (k = 243 ∨ k = 244) → ¬ (k = (ν 236 5).toNat ∧ j = now.length) → ω k j = ν k j) → Q ω) : tX7_putNow x ν Q := by
  have ly := h.ly
  obtain ⟨p1, p2, p3, p4, p5, p6, p7, p8, p9, p10, p11⟩ := h
  intro _ _
  have nl : now.length ≤ 15625 := Nat.le_trans (by simp) (nodup_le _ _ p7 p8)
  refine ⟨fun z => by omega, fun _ => ⟨fun z => by omega, fun _ => ⟨fun z => ?_, fun z => s_isIn hx (fun y _ _ => ⟨fun _ => hqY ((p6 x hx).1 y), fun z => absurd z (by decide)⟩) (fun y _ _ => ⟨fun z => absurd z (by decide), fun _ => ?_⟩)⟩⟩⟩
  · -- the row is full: then x is in it
    by_cases q : x ∈ P ∨ x ∈ now
    · exact hqY q
    · exfalso
      have := nodup_lt p7 p8 hx (fun z => q (List.mem_append.1 z))
      rw [List.length_append] at this
      omega
  · have q : ¬ (x ∈ P ∨ x ∈ now) := fun z => y ((p6 x hx).2 z)
    rw [td32, tm32, Int.toNat_natCast]
    obtain ⟨A, eA⟩ : ∃ A, A = xOr (ν 245 (x / 32)) (xShl 1 ((x % 32 : Nat) : Int)) := ⟨_, rfl⟩
    refine ⟨⟨by omega, by omega⟩, wl fun _ => ?_⟩
    rw [← eA]
    have e5 : wi ν 245 (x / 32) A 236 5 = ν 236 5 := wi_cell (by omega)
    have e9 : wi ν 245 (x / 32) A 236 9 = ν 236 9 := wi_cell (by omega)
    rw [e5, e9]
    have ek : (ν 236 5).toNat = 243 ∨ (ν 236 5).toNat = 244 := by rcases p1 with z | z <;> omega
    have ekl : (ν 236 6).toNat = 243 ∨ (ν 236 6).toNat = 244 := by rcases p1 with z | z <;> omega
    have ekn : (ν 236 5).toNat ≠ (ν 236 6).toNat := by rcases p1 with z | z <;> omega
    obtain ⟨kn, hkn⟩ : ∃ k, k = (ν 236 5).toNat := ⟨_, rfl⟩
    obtain ⟨kl, hkl⟩ : ∃ k, k = (ν 236 6).toNat := ⟨_, rfl⟩
    rw [← hkn] at ek ekn p3 ly
    rw [← hkl] at ekl ekn p5
    rw [← hkn]
    refine ⟨ly.1, ⟨by omega, by omega⟩, wl fun _ => ?_⟩
    have e9b : wi (wi ν 245 (x / 32) A) kn (ν 236 9).toNat x 236 9 = ν 236 9 := by rw [wi_cell (by omega)]; exact e9
    rw [e9b]
    refine ⟨⟨by omega, by omega⟩, wl fun _ => hqN q _ ?_ ⟨fun k a b => ?_, fun j a b => ?_⟩ ?_ (fun k j a b => ?_)⟩
    · have g5 : wi (wi (wi ν 245 (x / 32) A) kn (ν 236 9).toNat x) 236 9 (ν 236 9 + 1) 236 5 = ν 236 5 := by rw [wi_place (by omega), wi_cell (by omega)]; exact e5
      have g6 : wi (wi (wi ν 245 (x / 32) A) kn (ν 236 9).toNat x) 236 9 (ν 236 9 + 1) 236 6 = ν 236 6 := by rw [wi_place (by omega), wi_cell (by omega), wi_cell (by omega)]
      have g245 : ∀ y, inB (wi (wi (wi ν 245 (x / 32) A) kn (ν 236 9).toNat x) 236 9 (ν 236 9 + 1) 245) y ↔ y = x ∨ inB (ν 245) y := fun y => inB_set (by rw [wi_cell (by omega), wi_cell (by omega), wi_self, eA]) (fun j hj => by rw [wi_cell (by omega), wi_cell (by omega), wi_place hj]) y
      have g246 : wi (wi (wi ν 245 (x / 32) A) kn (ν 236 9).toNat x) 236 9 (ν 236 9 + 1) 246 = ν 246 := by funext j; rw [wi_cell (by omega), wi_cell (by omega), wi_cell (by omega)]
      unfold Sch
      rw [g5, g6, ← hkn, ← hkl, g246]
      refine ⟨p1, ?_, ?_, ?_, ?_, fun y hy => ?_, ?_, fun y hy => ?_, p9, p10, fun y hy z => ?_⟩
      · rw [wi_self, p2]; simp
      · refine rowL_s (rowL_c p3 (fun i hi => ?_)) ?_
        · rw [wi_cell (by omega), wi_place (by omega), wi_cell (by omega)]
        · rw [wi_cell (by omega), show (ν 236 9).toNat = now.length by omega, wi_self]
      · rw [wi_place (by omega), wi_cell (by omega), wi_cell (by omega)]; exact p4
      · refine rowL_c p5 (fun i hi => ?_)
        rw [wi_cell (by omega), wi_cell (fun z => ekn z.symm), wi_cell (by omega)]
      · rw [g245, p6 y hy]
        simp only [List.mem_append, List.mem_singleton]
        constructor
        · rintro (z | z | z)
          · exact Or.inr (Or.inr z)
          · exact Or.inl z
          · exact Or.inr (Or.inl z)
        · rintro (z | z | z)
          · exact Or.inr (Or.inl z)
          · exact Or.inr (Or.inr z)
          · exact Or.inl z
      · rw [← List.append_assoc, List.nodup_append]
        refine ⟨p7, by simp, fun a ha b hb => ?_⟩
        rw [List.mem_singleton.1 hb]
        rintro rfl
        exact q (List.mem_append.1 ha)
      · rw [← List.append_assoc] at hy
        rcases List.mem_append.1 hy with z | z
        · exact p8 y z
        · rw [List.mem_singleton.1 z]; exact hx
      · rcases p11 y hy z with w | w | w
        · exact Or.inl w
        · exact Or.inr (Or.inl w)
        · exact Or.inr (Or.inr (List.mem_append.2 (Or.inl w)))
    · funext j; rw [wi_cell a, wi_cell (by omega), wi_cell (by omega)]
    · rw [wi_place a, wi_cell (by omega), wi_cell (by omega)]
    · funext j; rw [wi_cell (by omega), wi_cell (by omega), wi_cell (by omega)]
    · rw [wi_cell (by omega)]
      by_cases e : k = kn
      · subst e
        rw [wi_place (fun z => b ⟨hkn, by omega⟩), wi_cell (by omega)]
      · rw [wi_cell e, wi_cell (by omega)]
theorem s_putLater {ν : xM} {P now lat : List Nat} {x : Nat} {Q : xM → Prop} (h : Sch P now lat ν) (hx : x < 15625) (hqY : (x ∈ P ∨ x ∈ now) ∨ inB (ν 246) x → Q ν)
    (hqN : ¬ ((x ∈ P ∨ x ∈ now) ∨ inB (ν 246) x) → ∀ ω, Sch P now (lat ++ [x]) ω → ptS ν ω → (∀ y, inB (ω 246) y ↔ y = x ∨ inB (ν 246) y) → Q ω) : tX7_putLater x ν Q := by
  have ly := h.ly
  obtain ⟨p1, p2, p3, p4, p5, p6, p7, p8, p9, p10, p11⟩ := h
  intro _ _
  have nl : lat.length ≤ 15625 := nodup_le _ _ p9 (fun y hy => (p10 y hy).1)
  refine ⟨fun z => by omega, fun _ => ⟨fun z => by omega, fun _ => ⟨fun z => ?_, fun z => s_isIn hx (fun y _ _ => ⟨fun _ => hqY (Or.inl ((p6 x hx).1 y)), fun z => absurd z (by decide)⟩) (fun y _ _ => ⟨fun z => absurd z (by decide), fun _ => s_isIn hx (fun y2 _ _ => ⟨fun _ => hqY (Or.inr y2), fun z => absurd z (by decide)⟩) (fun y2 _ _ => ⟨fun z => absurd z (by decide), fun _ => ?_⟩)⟩)⟩⟩⟩
  · by_cases q : (x ∈ P ∨ x ∈ now) ∨ inB (ν 246) x
    · exact hqY q
    · exfalso
      have := nodup_lt p9 (fun y hy => (p10 y hy).1) hx (fun z => q (Or.inr (p10 x z).2))
      omega
  · have q : ¬ ((x ∈ P ∨ x ∈ now) ∨ inB (ν 246) x) := fun z => z.elim (fun z => y ((p6 x hx).2 z)) y2
    rw [td32, tm32, Int.toNat_natCast]
    obtain ⟨A, eA⟩ : ∃ A, A = xOr (ν 246 (x / 32)) (xShl 1 ((x % 32 : Nat) : Int)) := ⟨_, rfl⟩
    refine ⟨⟨by omega, by omega⟩, wl fun _ => ?_⟩
    rw [← eA]
    have e6 : wi ν 246 (x / 32) A 236 6 = ν 236 6 := wi_cell (by omega)
    have e10 : wi ν 246 (x / 32) A 236 10 = ν 236 10 := wi_cell (by omega)
    rw [e6, e10]
    have ek : (ν 236 5).toNat = 243 ∨ (ν 236 5).toNat = 244 := by rcases p1 with z | z <;> omega
    have ekl : (ν 236 6).toNat = 243 ∨ (ν 236 6).toNat = 244 := by rcases p1 with z | z <;> omega
    have ekn : (ν 236 5).toNat ≠ (ν 236 6).toNat := by rcases p1 with z | z <;> omega
    obtain ⟨kn, hkn⟩ : ∃ k, k = (ν 236 5).toNat := ⟨_, rfl⟩
    obtain ⟨kl, hkl⟩ : ∃ k, k = (ν 236 6).toNat := ⟨_, rfl⟩
    rw [← hkn] at ek ekn p3
    rw [← hkl] at ekl ekn p5 ly
    rw [← hkl]
    refine ⟨ly.2, ⟨by omega, by omega⟩, wl fun _ => ?_⟩
    have e10b : wi (wi ν 246 (x / 32) A) kl (ν 236 10).toNat x 236 10 = ν 236 10 := by rw [wi_cell (by omega)]; exact e10
    rw [e10b]
    have g246 : ∀ y, inB (wi (wi (wi ν 246 (x / 32) A) kl (ν 236 10).toNat x) 236 10 (ν 236 10 + 1) 246) y ↔ y = x ∨ inB (ν 246) y := fun y => inB_set (by rw [wi_cell (by omega), wi_cell (by omega), wi_self, eA]) (fun j hj => by rw [wi_cell (by omega), wi_cell (by omega), wi_place hj]) y
    refine ⟨⟨by omega, by omega⟩, wl fun _ => hqN q _ ?_ ⟨fun k a b => ?_, fun j a b => ?_⟩ g246⟩
    · have g5 : wi (wi (wi ν 246 (x / 32) A) kl (ν 236 10).toNat x) 236 10 (ν 236 10 + 1) 236 5 = ν 236 5 := by rw [wi_place (by omega), wi_cell (by omega), wi_cell (by omega)]
      have g6 : wi (wi (wi ν 246 (x / 32) A) kl (ν 236 10).toNat x) 236 10 (ν 236 10 + 1) 236 6 = ν 236 6 := by rw [wi_place (by omega), wi_cell (by omega)]; exact e6
      have g245 : wi (wi (wi ν 246 (x / 32) A) kl (ν 236 10).toNat x) 236 10 (ν 236 10 + 1) 245 = ν 245 := by funext j; rw [wi_cell (by omega), wi_cell (by omega), wi_cell (by omega)]
      unfold Sch
      rw [g5, g6, ← hkn, ← hkl, g245]
      refine ⟨p1, ?_, ?_, ?_, ?_, p6, p7, p8, ?_, fun y hy => ?_, fun y hy z => ?_⟩
      · rw [wi_place (by omega), wi_cell (by omega), wi_cell (by omega)]; exact p2
      · refine rowL_c p3 (fun i hi => ?_)
        rw [wi_cell (by omega), wi_cell ekn, wi_cell (by omega)]
      · rw [wi_self, p4]; simp
      · refine rowL_s (rowL_c p5 (fun i hi => ?_)) ?_
        · rw [wi_cell (by omega), wi_place (by omega), wi_cell (by omega)]
        · rw [wi_cell (by omega), show (ν 236 10).toNat = lat.length by omega, wi_self]
      · rw [List.nodup_append]
        refine ⟨p9, by simp, fun a ha b hb => ?_⟩
        rw [List.mem_singleton.1 hb]
        rintro rfl
        exact q (Or.inr (p10 a ha).2)
      · rw [g246]
        rcases List.mem_append.1 hy with z | z
        · exact ⟨(p10 y z).1, Or.inr (p10 y z).2⟩
        · rw [List.mem_singleton.1 z]; exact ⟨hx, Or.inl rfl⟩
      · rcases (g246 y).1 z with w | w
        · exact Or.inl (List.mem_append.2 (Or.inr (List.mem_singleton.2 w)))
        · rcases p11 y hy w with u | u
          · exact Or.inl (List.mem_append.2 (Or.inl u))
          · exact Or.inr u
    · funext j; rw [wi_cell a, wi_cell (by omega), wi_cell (by omega)]
    · rw [wi_place b, wi_cell (by omega), wi_cell (by omega)]
/-- the steps that are looked at -/
def fwd (R : Nat → Int) (n up : Int) (D : Nat → Nat → Int) (f : Nat → Nat) (x : Nat) : Prop := ∃ t v : Nat, (t : Int) < R 0 ∧ v ≤ 24 ∧ stTV R 1 n up f t v ∧ D t v < D t (f t) ∧ x = cdX (sT f t v)
def bck (R : Nat → Int) (n up : Int) (D : Nat → Nat → Int) (f : Nat → Nat) (x : Nat) : Prop := ∃ t v : Nat, (t : Int) < R 0 ∧ v ≤ 24 ∧ stTV R 1 n up f t v ∧ ¬ D t v < D t (f t) ∧ x = cdX (sT f t v)
def GG (R : Nat → Int) (n up : Int) (D : Nat → Nat → Int) (P now lat : List Nat) (ν0 : xM) (f : Nat → Nat) (done : Nat → Nat → Prop) (ω : xM) : Prop :=
  ∃ now' lat', Sch P now' lat' ω ∧ ptS ν0 ω ∧ (∀ x ∈ now, x ∈ now') ∧ (∀ x ∈ now', x ∈ now ∨ fwd R n up D f x) ∧ (∀ x ∈ lat, x ∈ lat') ∧ (∀ x ∈ lat', x ∈ lat ∨ bck R n up D f x) ∧ (∀ x, inB (ν0 246) x → inB (ω 246) x)
    ∧ ∀ t v : Nat, (t : Int) < R 0 → v ≤ 24 → done t v → stTV R 1 n up f t v → (D t v < D t (f t) → cdX (sT f t v) ∈ P ∨ cdX (sT f t v) ∈ now') ∧ (¬ D t v < D t (f t) → (cdX (sT f t v) ∈ P ∨ cdX (sT f t v) ∈ now') ∨ inB (ω 246) (cdX (sT f t v)))
theorem GG.dn {R : Nat → Int} {n up : Int} {D : Nat → Nat → Int} {P now lat : List Nat} {ν0 ω : xM} {f : Nat → Nat} {d d' : Nat → Nat → Prop} (h : GG R n up D P now lat ν0 f d ω) (hd : ∀ t v : Nat, (t : Int) < R 0 → v ≤ 24 → d' t v → stTV R 1 n up f t v → d t v) : GG R n up D P now lat ν0 f d' ω := by
  obtain ⟨a, b, c1, c2, c3, c4, c5, c6, c7, c8⟩ := h
  exact ⟨a, b, c1, c2, c3, c4, c5, c6, c7, fun t v x y z w => c8 t v x y (hd t v x y z w) w⟩
theorem s_placeOf {μ : xM} {t : Nat} {Q : Int → xM → Prop} (ht : t < 3) (hq : ∀ p : Int, p = (if t = 0 then 625 else if t = 1 then 25 else 1) → Q p μ) : tX7_placeOf t μ Q := by
  intro _ _
  refine ⟨fun z => ⟨fun z2 => hq 1 ?_, fun z2 => hq 25 ?_⟩, fun z => hq 625 ?_⟩
  · rw [if_neg (by omega), if_neg (by omega)]
  · rw [if_neg (by omega), if_pos (by omega)]
  · rw [if_pos (by omega)]
theorem cdX_set {f : Nat → Nat} {t v : Nat} (ht : t < 3) : (cdX f : Int) + ((v : Int) - (f t : Nat)) * (if t = 0 then 625 else if t = 1 then 25 else 1) = (cdX (sT f t v) : Int) := by
  rcases (show t = 0 ∨ t = 1 ∨ t = 2 by omega) with rfl | rfl | rfl <;> simp [cdX, sT] <;> omega
theorem s_step {ν ν0 : xM} {R : Nat → Int} {n up : Int} {D : Nat → Nat → Int} {P now lat : List Nat} {f : Nat → Nat} {t v : Nat} {d : Nat → Nat → Prop} {Q : xM → Prop} (hf : ∀ j, j < 3 → f j ≤ 24) (ht : t < 3) (tT : (t : Int) < R 0) (hv : v ≤ 24) (hs : stTV R 1 n up f t v) (hD : ∀ t w : Nat, t < 3 → ν0 (239 + t) w = D t w)
    (g : GG R n up D P now lat ν0 f d ν) (hq : ∀ ω, GG R n up D P now lat ν0 f (fun t' v' => d t' v' ∨ (t' = t ∧ v' = v)) ω → Q ω) : tX7_step (cdX f) t (f t) v ν Q := by
  obtain ⟨now', lat', c1, c2, c3, c4, c5, c6, c7, c8⟩ := g
  have sl : ∀ j, j < 3 → sT f t v j ≤ 24 := fun j hj => by
    unfold sT
    split
    · exact hv
    · exact hf j hj
  have xl := cdX_lt sl
  have ft := hf t ht
  have dv : ∀ w, ν (239 + t) w = D t w := fun w => by rw [c2.1 (239 + t) (by omega) (by omega)]; exact hD t w ht
  intro _ _ _ _ _
  refine s_placeOf ht (fun p hp _ _ => s_farOf7 ht (by omega) (fun _ _ => s_farOf7 ht (by omega) (fun _ _ => ?_)))
  rw [hp, cdX_set ht, dv, dv]
  have xi : xIn ((cdX (sT f t v) : Nat) : Int) := ⟨by omega, by omega⟩
  refine ⟨fun z => ⟨xi, s_putLater c1 xl (fun y _ => hq ν ⟨now', lat', c1, c2, c3, c4, c5, c6, c7, fun t' v' a b e s => ?_⟩) (fun y ω w1 w2 w3 _ => hq ω ⟨now', lat' ++ [cdX (sT f t v)], w1, c2.tt w2, c3, c4, fun x hx => List.mem_append.2 (Or.inl (c5 x hx)), fun x hx => ?_, fun x hx => (w3 x).2 (Or.inr (c7 x hx)), fun t' v' a b e s => ?_⟩)⟩, fun z => ⟨xi, s_putNow c1 xl (fun y _ => hq ν ⟨now', lat', c1, c2, c3, c4, c5, c6, c7, fun t' v' a b e s => ?_⟩) (fun y ω w1 w2 w3 _ _ => hq ω ⟨now' ++ [cdX (sT f t v)], lat', w1, c2.tt w2, fun x hx => List.mem_append.2 (Or.inl (c3 x hx)), fun x hx => ?_, c5, c6, fun x hx => by rw [w3]; exact c7 x hx, fun t' v' a b e s => ?_⟩)⟩⟩
  · rcases e with e | ⟨rfl, rfl⟩
    · exact c8 t' v' a b e s
    · exact ⟨fun u => absurd u (by omega), fun _ => y⟩
  · rcases List.mem_append.1 hx with u | u
    · exact c6 x u
    · exact Or.inr ⟨t, v, tT, hv, hs, by omega, List.mem_singleton.1 u⟩
  · rcases e with e | ⟨rfl, rfl⟩
    · have := c8 t' v' a b e s
      exact ⟨this.1, fun u => (this.2 u).elim Or.inl (fun i => Or.inr ((w3 _).2 (Or.inr i)))⟩
    · exact ⟨fun u => absurd u (by omega), fun _ => Or.inr ((w3 _).2 (Or.inl rfl))⟩
  · rcases e with e | ⟨rfl, rfl⟩
    · exact c8 t' v' a b e s
    · exact ⟨fun _ => y, fun u => absurd (by omega) u⟩
  · rcases List.mem_append.1 hx with u | u
    · exact c4 x u
    · exact Or.inr ⟨t, v, tT, hv, hs, by omega, List.mem_singleton.1 u⟩
  · rcases e with e | ⟨rfl, rfl⟩
    · have := c8 t' v' a b e s
      have lift : ∀ y, (y ∈ P ∨ y ∈ now') → (y ∈ P ∨ y ∈ now' ++ [cdX (sT f t v)]) := fun y i => i.elim Or.inl (fun i => Or.inr (List.mem_append.2 (Or.inl i)))
      exact ⟨fun u => lift _ (this.1 u), fun u => (this.2 u).elim (fun i => Or.inl (lift _ i)) (fun i => Or.inr (by rw [w3]; exact i))⟩
    · exact ⟨fun _ => Or.inr (List.mem_append.2 (Or.inr (by simp))), fun u => absurd (by omega) u⟩
