/-! calls that only read: both sides write their trouble -/
def tr (μ : xM) (a : Int) : xM := wi (wi (wi μ 0 18 a) 260 0 0) 260 11 a
theorem tr_no (μ : xM) (a : Int) : wi (wi (wi (wi μ 0 18 a) 260 0 0) 260 11 0) 260 11 a = tr μ a := by
  funext k j
  simp only [tr, wi]
  by_cases h : k = 260 ∧ j = 11
  · simp [h]
  · simp [h]
theorem tr_ne {μ : xM} {a : Int} {k j : Nat} (h0 : ¬ (k = 0 ∧ j = 18)) (h1 : ¬ (k = 260 ∧ j = 0)) (h2 : ¬ (k = 260 ∧ j = 11)) : tr μ a k j = μ k j := by
  simp [tr, wi, h0, h1, h2]
theorem iErr_tr {μ : xM} {a : Int} (h : iErr μ) (ha : a ≠ 4) : iErr (tr μ a) := by
  obtain ⟨h1, h2, h3⟩ := h
  refine ⟨?_, ?_, fun e => ?_⟩
  · rw [tr_ne (by omega) (by omega) (by omega), tr_ne (by omega) (by omega) (by omega)]
    exact h1
  · simp [tr, wi]
  · simp [tr, wi] at e
    exact absurd e ha
theorem s_at {o : Nat} {t : Int} {μ : xM} {Q : Int → xM → Prop} (h1 : 0 ≤ t → t < 3 → Q (μ (o + 1) t.toNat) μ) (h0 : ¬ (0 ≤ t ∧ t < 3) → Q 24 μ) : tX4_at o t μ Q := by
  intro _ _
  exact ⟨fun c => h0 (by omega), fun c => ⟨fun d => h0 (by omega), fun d => ⟨⟨by omega, by omega⟩, h1 (by omega) (by omega)⟩⟩⟩
theorem s_isTable {t : Int} {μ : xM} {Q : Int → xM → Prop} (hi : iInn μ) (h1 : μ 260 14 = 1 → 0 ≤ t → t < μ 263 0 → Q 1 μ) (h0 : ¬ (μ 260 14 = 1 ∧ 0 ≤ t ∧ t < μ 263 0) → Q 0 μ) : tX11_isTable t μ Q := by
  intro hr _
  refine ⟨fun c => h0 (fun g => by omega), fun c => ⟨⟨?_, ?_⟩, s_within (fun a b => fun _ _ => ⟨fun e => absurd e (by decide), fun _ => ?_⟩) (fun a => fun _ _ => ⟨fun _ => h0 (fun g => a ⟨g.2.1, by omega⟩), fun e => absurd e (by decide)⟩)⟩⟩
  · rcases hi with g | g
    · exact absurd g.1 c
    · have := g.2.1.1; omega
  · rcases hi with g | g
    · exact absurd g.1 c
    · have := g.2.1.2; omega
  · rcases hi with g | g
    · exact absurd g.1 c
    · exact h1 g.1 a (by omega)
theorem iInn_tr {μ : xM} {a : Int} (h : iInn μ) : iInn (tr μ a) := by
  have e : tr μ a 263 = μ 263 := funext fun j => tr_ne (by omega) (by omega) (by omega)
  unfold iInn
  rw [e, tr_ne (by omega) (by omega) (by omega)]
  exact h
theorem iInn_c {μ μ' : xM} (e : μ' 263 = μ 263) (e2 : μ' 260 14 = μ 260 14) (h : iInn μ) : iInn μ' := by
  unfold iInn at *
  rw [e, e2]
  exact h
/-- table(t) -/
theorem c_24 {sc : Int → Int} {i : Int} {μ : xM} {K : xM → Prop} (hi : iInn μ) (hh : iHouse μ) (hn : iNight μ 249 265 0) (h : ∀ a, a ≠ 4 → K (tr μ a)) : tl_24 sc i μ K := by
  have e0 : μ 39 0 = μ 263 0 := hh.1 0 (by omega)
  have hin : ∀ a : Int, iInn (wi (wi (wi μ 0 18 a) 260 0 0) 260 11 0) := fun a => iInn_c (by funext j; simp [wi]) (by simp [wi]) hi
  have e1 : ∀ a : Int, wi (wi (wi μ 0 18 a) 260 0 0) 260 11 0 260 14 = μ 260 14 := fun a => by simp [wi]
  have e2 : ∀ (a : Int) (j : Nat), wi (wi (wi μ 0 18 a) 260 0 0) 260 11 0 263 j = μ 263 j := fun a j => by simp [wi]
  have e3 : ∀ (a : Int) (j : Nat), wi (wi (wi μ 0 18 a) 260 0 0) 260 11 0 265 j = μ 265 j := fun a j => by simp [wi]
  have no1 : ¬ (μ 260 14 = 1 ∧ 0 ≤ sc (i + 1) ∧ sc (i + 1) < μ 263 0) → tX11_table (sc (i + 1)) (wi μ 0 18 1) (fun r43 μ41 => (xIn r43) → xRan μ41 → ((-1 = r43) ∧ (K μ41))) := by
    intro hm _ _
    refine s_good (fun _ => s_isTable (hin 1) (fun a b c => absurd ⟨by rw [e1] at a; exact a, b, by rw [e2] at c; exact c⟩ hm) (fun _ => fun _ _ => ⟨fun _ => s_no (fun _ _ => fun _ _ => ⟨rfl, ?_⟩), fun e => absurd e (by decide)⟩))
    rw [tr_no]
    exact h 1 (by decide)
  have open1 : 0 < μ 263 0 → μ 260 14 = 1 := by
    intro h0
    rcases hi with g | g
    · have := g.2 0 (by omega); omega
    · exact g.1
  have b0 : μ 263 0 ≤ 3 := by
    rcases hi with g | g
    · have := g.2 0 (by omega); omega
    · exact g.2.1.2
  have yes : ∀ r : Int, 0 ≤ sc (i + 1) → sc (i + 1) < μ 263 0 → (μ 265 (sc (i + 1)).toNat ≠ 24 → r = μ 265 (sc (i + 1)).toNat) → (μ 265 (sc (i + 1)).toNat = 24 → r = -2) → tX11_table (sc (i + 1)) (wi μ 0 18 0) (fun r43 μ41 => (xIn r43) → xRan μ41 → ((r = r43) ∧ (K μ41))) := by
    intro r h0 h1 hr1 hr2 _ _
    refine s_good (fun _ => s_isTable (hin 0) (fun _ _ _ => fun _ _ => ⟨fun e => absurd e (by decide), fun _ => ⟨⟨h0, by omega⟩, ?_, ?_⟩⟩) (fun g => absurd ⟨by rw [e1]; exact open1 (by omega), h0, by rw [e2]; exact h1⟩ g))
    · intro c _ _
      rw [e3] at c ⊢
      exact ⟨hr1 c, h 0 (by decide)⟩
    · intro c _ _
      rw [e3] at c
      exact ⟨hr2 c, h 0 (by decide)⟩
  intro _ _
  refine ⟨fun c => s_refused (fun _ _ => fun _ _ => no1 (fun g => by omega)), fun c => ⟨fun d => s_at (fun a b => fun _ _ => ⟨fun e => s_granted (fun _ _ => fun _ _ => ?_), fun e => s_granted (fun _ _ => fun _ _ => ?_)⟩) (fun g => absurd ⟨by omega, by omega⟩ g), fun d => s_refused (fun _ _ => fun _ _ => no1 (fun g => by omega))⟩⟩
  · have q := (hn.1 (sc (i + 1)).toNat (by omega)).1
    rw [Nat.zero_add] at q
    exact yes _ a (by omega) (fun _ => q) (fun z => absurd (q.trans z) e)
  · have q := (hn.1 (sc (i + 1)).toNat (by omega)).1
    rw [Nat.zero_add] at q
    exact yes _ a (by omega) (fun z => absurd (q.symm.trans e) z) (fun _ => rfl)
/-- thrown alone is written -/
def th (μ : xM) : xM := wi μ 260 0 0
theorem c_2 {sc : Int → Int} {i : Int} {μ : xM} {K : xM → Prop} (he : iErr μ) (h : K (th μ)) : tl_2 sc i μ K := by
  intro _ _ _ _ μ1 e1 _ _ _
  subst e1
  exact ⟨by simp [wi, he.1], h⟩
theorem c_3 {sc : Int → Int} {i : Int} {μ : xM} {K : xM → Prop} (he : iErr μ) (h : K (th μ)) : tl_3 sc i μ K := by
  have e1 : wi μ 260 0 0 260 11 = μ 260 11 := by simp [wi]
  have e2 : wi μ 260 0 0 260 10 = μ 260 10 := by simp [wi]
  obtain ⟨_, h2, h3⟩ := he
  intro _
  refine ⟨fun c _ _ _ μ1 q _ => ?_, fun c _ _ _ μ1 q _ => ?_⟩
  · subst q
    rw [e1]
    exact ⟨fun _ _ _ => ⟨rfl, h⟩, fun d => absurd (h2.trans d) c⟩
  · subst q
    rw [e1, e2]
    exact ⟨fun d => absurd (h2.symm.trans c) d, fun d _ _ => ⟨h3 d, h⟩⟩
theorem c_44 {sc : Int → Int} {i : Int} {μ : xM} {K : xM → Prop} (he : iErr μ) (h : K (th μ)) : tl_44 sc i μ K := by
  intro _ _ _ _ μ1 e1 _ _ _
  subst e1
  exact ⟨by simp [wi, he.2.1], h⟩
/-- size(what) -/
theorem c_43 {sc : Int → Int} {i : Int} {μ : xM} {K : xM → Prop} (ht : iTape μ) (hi : iInn μ) (hh : iHouse μ) (hn : iNights μ) (hz : μ 260 14 = 0 → μ 249 1 = 0 ∧ μ 249 0 = 0 ∧ μ 0 17 = 0) (h : K (th μ)) : tl_43 sc i μ K := by
  have a0 := hh.1 0 (by omega); have a1 := hh.1 1 (by omega); have a3 := hh.1 3 (by omega); have a4 := hh.1 4 (by omega); have a5 := hh.1 5 (by omega); have a6 := hh.1 6 (by omega)
  have b3 := hn.1.2.1.1; have b4 := hn.1.2.2.1.1; have b9 := ht.1; have b8 := hn.2.1
  have z : μ 260 14 = 0 → μ 263 0 = 0 ∧ μ 263 1 = 0 ∧ μ 263 3 = 0 ∧ μ 263 4 = 0 ∧ μ 263 5 = 0 ∧ μ 263 6 = 0 := by
    intro c
    rcases hi with g | g
    · exact ⟨g.2 0 (by omega), g.2 1 (by omega), g.2 3 (by omega), g.2 4 (by omega), g.2 5 (by omega), g.2 6 (by omega)⟩
    · omega
  obtain ⟨w, ew⟩ : ∃ w, w = sc (i + 1) := ⟨_, rfl⟩
  have ref : ∀ r : Int, (w = 0 → r = μ 263 0) → (w = 1 → r = μ 263 1) → (w = 2 → r = μ 263 3) → (w = 3 → r = μ 263 4) → (w = 4 → r = μ 263 5) → (w = 5 → r = μ 263 6) → (w = 6 → r = μ 249 1) → (w = 7 → r = μ 249 0) → (w = 8 → r = μ 0 17) → (w = 9 → r = μ 260 2) → (w < 0 ∨ 9 < w → r = -1) →
      tX11_size w μ (fun r' ν => (xIn r') → xRan ν → ((r = r') ∧ (K ν))) := by
    intro r r0 r1 r2 r3 r4 r5 r6 r7 r8 r9 rx _ _ μ1 e1 _
    subst e1
    have f : ∀ k j : Nat, ¬ (k = 260 ∧ j = 0) → wi μ 260 0 0 k j = μ k j := fun k j hk => by simp [wi, hk]
    rw [f 260 14 (by omega), f 263 0 (by omega), f 263 1 (by omega), f 263 3 (by omega), f 263 4 (by omega), f 263 5 (by omega), f 263 6 (by omega), f 265 4 (by omega), f 265 3 (by omega), f 260 19 (by omega), f 260 2 (by omega)]
    refine ⟨fun c9 => ⟨fun c => ⟨fun q _ _ => ⟨r0 q, h⟩, fun q _ _ => ⟨r1 q, h⟩, fun q _ _ => ⟨r2 q, h⟩, fun q _ _ => ⟨r3 q, h⟩, fun q _ _ => ⟨r4 q, h⟩, fun q _ _ => ⟨r5 q, h⟩, fun q _ _ => ⟨(r6 q).trans b4, h⟩, fun q _ _ => ⟨(r7 q).trans b3, h⟩, fun q _ _ => ⟨(r8 q).trans b8, h⟩, fun q _ _ => ⟨rx (by omega), h⟩⟩, fun c => ?_⟩, fun c9 _ _ => ⟨r9 c9, h⟩⟩
    obtain ⟨z0, z1, z3, z4, z5, z6⟩ := z c
    obtain ⟨y1, y0, y7⟩ := hz c
    refine s_within (fun a b => fun _ _ => ⟨fun e => absurd e (by decide), fun _ _ _ => ⟨?_, h⟩⟩) (fun a => fun _ _ => ⟨fun _ _ _ => ⟨rx (by omega), h⟩, fun e => absurd e (by decide)⟩)
    rcases (show w = 0 ∨ w = 1 ∨ w = 2 ∨ w = 3 ∨ w = 4 ∨ w = 5 ∨ w = 6 ∨ w = 7 ∨ w = 8 by omega) with q | q | q | q | q | q | q | q | q
    · rw [r0 q, z0]
    · rw [r1 q, z1]
    · rw [r2 q, z3]
    · rw [r3 q, z4]
    · rw [r4 q, z5]
    · rw [r5 q, z6]
    · rw [r6 q, y1]
    · rw [r7 q, y0]
    · rw [r8 q, y7]
  unfold tl_43
  rw [← ew]
  intro _ _
  refine ⟨fun q _ _ => ref _ ?_ ?_ ?_ ?_ ?_ ?_ ?_ ?_ ?_ ?_ ?_, fun q _ _ => ref _ ?_ ?_ ?_ ?_ ?_ ?_ ?_ ?_ ?_ ?_ ?_, fun q _ _ => ref _ ?_ ?_ ?_ ?_ ?_ ?_ ?_ ?_ ?_ ?_ ?_, fun q _ _ => ref _ ?_ ?_ ?_ ?_ ?_ ?_ ?_ ?_ ?_ ?_ ?_, fun q _ _ => ref _ ?_ ?_ ?_ ?_ ?_ ?_ ?_ ?_ ?_ ?_ ?_, fun q _ _ => ref _ ?_ ?_ ?_ ?_ ?_ ?_ ?_ ?_ ?_ ?_ ?_, fun q _ _ => ref _ ?_ ?_ ?_ ?_ ?_ ?_ ?_ ?_ ?_ ?_ ?_, fun q _ _ => ref _ ?_ ?_ ?_ ?_ ?_ ?_ ?_ ?_ ?_ ?_ ?_, fun q _ _ => ref _ ?_ ?_ ?_ ?_ ?_ ?_ ?_ ?_ ?_ ?_ ?_, fun q _ _ => ref _ ?_ ?_ ?_ ?_ ?_ ?_ ?_ ?_ ?_ ?_ ?_, fun q _ _ => ref _ ?_ ?_ ?_ ?_ ?_ ?_ ?_ ?_ ?_ ?_ ?_⟩ <;> intro q2 <;> omega
