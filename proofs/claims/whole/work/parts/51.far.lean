/-! lists without repeats; how far things are -/
theorem nodup_le : ∀ (n : Nat) (l : List Nat), l.Nodup → (∀ x ∈ l, x < n) → l.length ≤ n := by
  intro n
  induction n with
  | zero =>
    intro l _ h
    cases l with
    | nil => simp
    | cons x l => exact absurd (h x (by simp)) (by omega)
  | succ n ih =>
    intro l hd h
    have h2 := ih (l.erase n) (hd.erase n) (fun x hx => by
      have m := (List.Nodup.mem_erase_iff hd).1 hx
      have := h x m.2
      have := m.1
      omega)
    by_cases e : n ∈ l
    · rw [List.length_erase_of_mem e] at h2; omega
    · rw [List.erase_of_not_mem e] at h2; omega
theorem nodup_lt {n v : Nat} {l : List Nat} (hd : l.Nodup) (h : ∀ x ∈ l, x < n) (hv : v < n) (hn : v ∉ l) : l.length < n := by
  have := nodup_le n (v :: l) (List.nodup_cons.2 ⟨hn, hd⟩) (fun x hx => by
    rcases List.mem_cons.1 hx with q | q
    · omega
    · exact h x q)
  simp at this
  omega
def isDist (adj : Nat → Nat → Prop) (N : Nat) (goal : Nat) (f : Nat → Int) : Prop := f goal = 0 ∧ (∀ v, v < N → -1 ≤ f v) ∧ (∀ v, v < N → 0 < f v → ∃ w, w < N ∧ adj w v ∧ f w = f v - 1) ∧ (∀ v, v < N → f v = 0 → v = goal) ∧ (∀ w v, w < N → v < N → 0 ≤ f w → adj w v → 0 ≤ f v ∧ f v ≤ f w + 1)
theorem isDist_le {adj : Nat → Nat → Prop} {N goal : Nat} {f g : Nat → Int} (hf : isDist adj N goal f) (hg : isDist adj N goal g) : ∀ (n v : Nat), v < N → f v = n → 0 ≤ g v ∧ g v ≤ n := by
  intro n
  induction n with
  | zero =>
    intro v hv h
    have := hf.2.2.2.1 v hv h
    subst this
    have := hg.1
    omega
  | succ n ih =>
    intro v hv h
    obtain ⟨w, hw, a, e⟩ := hf.2.2.1 v hv (by omega)
    have q := ih w hw (by omega)
    have r := hg.2.2.2.2 w v hw hv q.1 a
    omega
theorem isDist_u {adj : Nat → Nat → Prop} {N goal : Nat} {f g : Nat → Int} (hf : isDist adj N goal f) (hg : isDist adj N goal g) : ∀ v, v < N → f v = g v := by
  intro v hv
  have a := hf.2.1 v hv
  have b := hg.2.1 v hv
  rcases Int.lt_or_le (f v) 0 with c | c
  · rcases Int.lt_or_le (g v) 0 with d | d
    · omega
    · have := isDist_le hg hf (g v).toNat v hv (by omega); omega
  · have q := isDist_le hf hg (f v).toNat v hv (by omega)
    have r := isDist_le hg hf (g v).toNat v hv (by omega)
    omega
/-- a search with a queue l, of which h have been gone through -/
def bfs (adj : Nat → Nat → Prop) (N goal : Nat) (f : Nat → Int) (l : List Nat) (h : Nat) : Prop := l.Nodup ∧ (∀ v ∈ l, v < N) ∧ (∀ v, v < N → (v ∈ l ↔ 0 ≤ f v)) ∧ (∀ v, v < N → -1 ≤ f v) ∧ f goal = 0
  ∧ (∀ v, v < N → f v = 0 → v = goal) ∧ (∀ v, v < N → 0 < f v → ∃ w, w < N ∧ adj w v ∧ f w = f v - 1)
  ∧ (∀ i, (hi : i < l.length) → i < h → ∀ v, v < N → adj l[i] v → 0 ≤ f v ∧ f v ≤ f l[i] + 1)
  ∧ (∀ i j, (hi : i < l.length) → (hj : j < l.length) → h ≤ i → f l[j] ≤ f l[i] + 1)
  ∧ (∀ i j, (hi : i < l.length) → (hj : j < l.length) → i ≤ j → f l[i] ≤ f l[j])
  ∧ (∀ i, (hi : i < l.length) → f l[i] ≤ i)
theorem bfs_end {adj : Nat → Nat → Prop} {N goal : Nat} {f : Nat → Int} {l : List Nat} {h : Nat} (hb : bfs adj N goal f l h) (he : l.length ≤ h) : isDist adj N goal f ∧ ∀ v, v < N → f v < N := by
  obtain ⟨b1, b2, b3, b4, b5, b6, b7, b8, b9, b10, b11⟩ := hb
  refine ⟨⟨b5, b4, b7, b6, fun w v hw hv a c => ?_⟩, fun v hv => ?_⟩
  · obtain ⟨i, hi, e⟩ := List.getElem_of_mem ((b3 w hw).2 a)
    have := b8 i hi (by omega) v hv (by rw [e]; exact c)
    rw [e] at this
    exact this
  · rcases Int.lt_or_le (f v) 0 with c | c
    · omega
    · obtain ⟨i, hi, e⟩ := List.getElem_of_mem ((b3 v hv).2 c)
      have := b11 i hi
      have := nodup_le N l b1 b2
      rw [e] at *
      omega
/-- the head's next neighbour is new -/
theorem bfs_add {adj : Nat → Nat → Prop} {N goal : Nat} {f f' : Nat → Int} {l : List Nat} {h v : Nat} (hb : bfs adj N goal f l h) (hh : h < l.length) (hv : v < N) (hn : ¬ 0 ≤ f v) (ha : adj l[h] v) (e1 : f' v = f l[h] + 1) (e2 : ∀ u, u ≠ v → f' u = f u) : bfs adj N goal f' (l ++ [v]) h := by
  obtain ⟨b1, b2, b3, b4, b5, b6, b7, b8, b9, b10, b11⟩ := hb
  have vn : v ∉ l := fun z => hn ((b3 v hv).1 z)
  have ne : ∀ i, (hi : i < l.length) → l[i] ≠ v := fun i hi z => vn (z ▸ List.getElem_mem hi)
  have h0 : 0 ≤ f l[h] := (b3 _ (b2 _ (List.getElem_mem hh))).1 (List.getElem_mem hh)
  have gl : ∀ i, (hi : i < (l ++ [v]).length) → (∃ hi' : i < l.length, (l ++ [v])[i] = l[i] ∧ f' (l ++ [v])[i] = f l[i]) ∨ (i = l.length ∧ (l ++ [v])[i] = v) := by
    intro i hi
    by_cases q : i < l.length
    · left
      refine ⟨q, List.getElem_append_left q, ?_⟩
      rw [List.getElem_append_left q, e2 _ (ne i q)]
    · right
      have : i = l.length := by simp at hi; omega
      subst this
      exact ⟨rfl, by simp⟩
  have fl : ∀ j, (hj : j < l.length) → f l[j] ≤ f l[h] + 1 := fun j hj => b9 h j hh hj (by omega)
  refine ⟨?_, fun u hu => ?_, fun u hu => ?_, fun u hu => ?_, ?_, fun u hu z => ?_, fun u hu z => ?_, fun i hi hi2 u hu a => ?_, fun i j hi hj hi2 => ?_, fun i j hi hj hij => ?_, fun i hi => ?_⟩
  · rw [List.nodup_append]
    refine ⟨b1, by simp, fun a ha b hb => ?_⟩
    rw [List.mem_singleton] at hb
    rintro rfl
    exact vn (hb ▸ ha)
  · rcases List.mem_append.1 hu with q | q
    · exact b2 u q
    · rw [List.mem_singleton] at q; omega
  · by_cases q : u = v
    · subst q
      rw [e1]
      exact ⟨fun _ => by omega, fun _ => by simp⟩
    · rw [e2 u q, ← b3 u hu]
      simp [q]
  · by_cases q : u = v
    · subst q; omega
    · rw [e2 u q]; exact b4 u hu
  · by_cases q : goal = v
    · subst q; omega
    · rw [e2 goal q]; exact b5
  · by_cases q : u = v
    · subst q; omega
    · rw [e2 u q] at z; exact b6 u hu z
  · by_cases q : u = v
    · subst q
      refine ⟨l[h], b2 _ (List.getElem_mem hh), ha, ?_⟩
      rw [e2 _ (ne h hh), e1]; omega
    · rw [e2 u q] at z ⊢
      obtain ⟨w, a, b, c⟩ := b7 u hu z
      refine ⟨w, a, b, ?_⟩
      rw [e2 w (by rintro rfl; omega)]; exact c
  · rcases gl i hi with ⟨hi', g1, g2⟩ | ⟨g1, g2⟩
    · rw [g2]
      rw [g1] at a
      have := b8 i hi' hi2 u hu a
      by_cases q : u = v
      · subst q; exact absurd this.1 hn
      · rw [e2 u q]; exact this
    · omega
  · rcases gl i hi with ⟨hi', g1, g2⟩ | ⟨g1, g2⟩
    · rw [g2]
      rcases gl j hj with ⟨hj', k1, k2⟩ | ⟨k1, k2⟩
      · rw [k2]; exact b9 i j hi' hj' hi2
      · rw [k2, e1]
        have := b10 h i hh hi' hi2
        omega
    · rw [g2, e1]
      rcases gl j hj with ⟨hj', k1, k2⟩ | ⟨k1, k2⟩
      · rw [k2]; have := fl j hj'; omega
      · rw [k2, e1]; omega
  · rcases gl j hj with ⟨hj', k1, k2⟩ | ⟨k1, k2⟩
    · rcases gl i hi with ⟨hi', g1, g2⟩ | ⟨g1, g2⟩
      · rw [g2, k2]; exact b10 i j hi' hj' hij
      · omega
    · rw [k2, e1]
      rcases gl i hi with ⟨hi', g1, g2⟩ | ⟨g1, g2⟩
      · rw [g2]; exact fl i hi'
      · rw [g2, e1]; omega
  · rcases gl i hi with ⟨hi', g1, g2⟩ | ⟨g1, g2⟩
    · rw [g2]; exact b11 i hi'
    · rw [g2, e1, g1]
      have := b11 h hh
      omega
/-- the head has been gone through -/
theorem bfs_next {adj : Nat → Nat → Prop} {N goal : Nat} {f : Nat → Int} {l : List Nat} {h : Nat} (hb : bfs adj N goal f l h) (hh : h < l.length) (hc : ∀ v, v < N → adj l[h] v → 0 ≤ f v) : bfs adj N goal f l (h + 1) := by
  obtain ⟨b1, b2, b3, b4, b5, b6, b7, b8, b9, b10, b11⟩ := hb
  refine ⟨b1, b2, b3, b4, b5, b6, b7, fun i hi hi2 u hu a => ?_, fun i j hi hj hi2 => b9 i j hi hj (by omega), b10, b11⟩
  by_cases q : i = h
  · subst q
    have p := hc u hu a
    refine ⟨p, ?_⟩
    obtain ⟨j, hj, e⟩ := List.getElem_of_mem ((b3 u hu).2 p)
    have := b9 i j hi hj (by omega)
    rw [e] at this
    exact this
  · exact b8 i hi (by omega) u hu a
theorem bfs_start {adj : Nat → Nat → Prop} {N goal : Nat} {f : Nat → Int} (hg : goal < N) (e1 : f goal = 0) (e2 : ∀ u, u < N → u ≠ goal → f u = -1) : bfs adj N goal f [goal] 0 := by
  have g0 : ∀ i, (hi : i < [goal].length) → [goal][i] = goal := fun i hi => by
    have : i = 0 := by simp at hi; omega
    subst this; rfl
  refine ⟨by simp, fun v hv => by simp at hv; omega, fun v hv => ?_, fun v hv => ?_, e1, fun v hv z => ?_, fun v hv z => ?_, fun i hi z => by omega, fun i j hi hj _ => ?_, fun i j hi hj _ => ?_, fun i hi => ?_⟩
  · by_cases q : v = goal
    · subst q; simp [e1]
    · rw [e2 v hv q]; simp [q]
  · by_cases q : v = goal
    · subst q; omega
    · rw [e2 v hv q]; omega
  · by_cases q : v = goal
    · exact q
    · rw [e2 v hv q] at z; omega
  · by_cases q : v = goal
    · subst q; omega
    · rw [e2 v hv q] at z; omega
  · rw [g0 i hi, g0 j hj]; omega
  · rw [g0 i hi, g0 j hj]; omega
  · rw [g0 i hi, e1]; omega
/-! ladders: the class's -/
def adjF (R : Nat → Int) (w v : Nat) : Prop := 0 ≤ byF R w v ∨ 0 ≤ byF R v w
theorem s_farOf {μ : xM} {w : Int} {Q : Int → xM → Prop} (h0 : 0 ≤ w) (h1 : w < 24) (h : Q (μ 209 w.toNat) μ) : tX3_farOf w μ Q := by
  intro _ _
  exact ⟨fun z => by omega, fun _ => ⟨fun z => by omega, fun _ => ⟨⟨h0, h1⟩, h⟩⟩⟩
theorem s_isRung {μ : xM} {w v : Int} {Q : Int → xM → Prop} (h : iOpen μ) (w0 : 0 ≤ w) (w1 : w < 24) (hv : wordF (μ 263) v) (h1 : adjF (μ 263) w.toNat v.toNat → Q 1 μ) (h0 : ¬ adjF (μ 263) w.toNat v.toNat → Q 0 μ) : tX3_isRung w v μ Q := by
  have bW := h.2.1.W
  have v0 := hv.1; have v1 := hv.2
  intro _ _ _
  refine k_word h (fun _ _ _ => ⟨fun z => absurd z (by decide), fun _ => k_letterOf h w0 (by omega) v0 (by omega) (fun _ _ => ⟨fun c => h1 (Or.inl c), fun c => k_letterOf h v0 (by omega) w0 w1 (fun _ _ => ⟨fun d => h0 (fun z => ?_), fun d => h1 (Or.inr (by omega))⟩)⟩)⟩) (fun z => absurd hv z)
  rcases z with z | z
  · exact c z
  · omega
theorem s_measure {μ : xM} {g : Int} {Q : xM → Prop} (h : iOpen μ) (hg : goodI (μ 263) g)
    (hq : ∀ ν, (∀ k, k ≠ 209 → k ≠ 210 → ν k = μ k) → isDist (adjF (μ 263)) (μ 263 3).toNat g.toNat (ν 209) → (∀ v : Nat, (v : Int) < μ 263 3 → ν 209 v < 24) → Q ν) : tX3_measure g μ Q := by
  have bW := h.2.1.W
  have g0 := hg.1.1; have g1 := hg.1.2
  have e3 : μ 39 3 = μ 263 3 := h.2.2.1.1 3 (by omega)
  intro _ _
  refine s_fill (by omega) (fun _ => ?_)
  have ok : ∀ ν : xM, (∀ k, k ≠ 209 → k ≠ 210 → ν k = μ k) → iOpen ν := fun ν f => iOpen_a (sc1.a (fun k hk => f k (by rintro rfl; exact hk (by unfold scrK; omega)) (by rintro rfl; exact hk (by unfold scrK; omega)))) h
  have f0 : ∀ k, k ≠ 209 → k ≠ 210 → fillM μ 209 24 (-1) k = μ k := fun k a _ => by funext j; simp [fillM, a]
  refine k_good (ok _ f0) (fun _ _ _ => ⟨fun _ => ⟨⟨g0, by omega⟩, wl fun _ => wl fun _ => ?_⟩, fun z => absurd z (by decide)⟩) (fun z => absurd hg z)
  refine ⟨fun m t hd ν => ∃ l : List Nat, t = l.length ∧ 0 ≤ hd ∧ hd ≤ t ∧ m = (24 - hd).toNat ∧ (∀ k, k ≠ 209 → k ≠ 210 → ν k = μ k) ∧ rowL (ν 210) l ∧ bfs (adjF (μ 263)) (μ 263 3).toNat g.toNat (ν 209) l hd.toNat, ⟨24, [g.toNat], rfl, by omega, by omega, rfl, fun k a b => ?_, fun i hi => ?_, bfs_start (by omega) ?_ (fun u hu hu2 => ?_)⟩, ?_⟩
  · funext j; simp [wi, fillM, a, b]
  · have : i = 0 := by simp at hi; omega
    subst this
    rw [wi_self]; simp; omega
  · rw [wi_cell (by omega), wi_self]
  · rw [wi_cell (by omega), wi_place hu2]; simp [fillM]; omega
  · rintro m t hd ν ⟨l, rfl, h0, hle, rfl, f1, f2, f3⟩ _
    have ll := nodup_le _ l f3.1 f3.2.1
    refine ⟨⟨by omega, by omega⟩, ⟨by omega, by omega⟩, fun c => ?_, fun c => ⟨fun d => by omega, fun d => ⟨⟨h0, by omega⟩, ?_⟩⟩⟩
    · have q := bfs_end f3 (by omega)
      exact hq ν f1 q.1 (fun v hv => by have := q.2 v (by omega); omega)
    · have hh : hd.toNat < l.length := by omega
      have ew : ν 210 hd.toNat = (l[hd.toNat] : Nat) := f2 _ hh
      have lw := f3.2.1 _ (List.getElem_mem hh)
      rw [ew]
      refine up2b (n := μ 263 3) (fun v t ω => ∃ l' : List Nat, ∃ hx : hd.toNat < l'.length, l'[hd.toNat] = l[hd.toNat] ∧ t = l'.length ∧ (∀ k, k ≠ 209 → k ≠ 210 → ω k = μ k) ∧ rowL (ω 210) l' ∧ bfs (adjF (μ 263)) (μ 263 3).toNat g.toNat (ω 209) l' hd.toNat ∧ ∀ u : Nat, (u : Int) < v → adjF (μ 263) l[hd.toNat] u → 0 ≤ ω 209 u) (by omega) ⟨l, hh, rfl, rfl, f1, f2, f3, fun u z => by omega⟩ ?_
      rintro v t ω K v0 v1 ⟨l', hx, ex, rfl, k1, k2, k3, k4⟩ _ hK
      have lw' := k3.2.1 _ (List.getElem_mem hx)
      have ll' := nodup_le _ l' k3.1 k3.2.1
      have hO := ok ω k1
      have e39 : ω 39 3 = μ 263 3 := by rw [k1 39 (by omega) (by omega)]; exact e3
      have e63 : ω 263 = μ 263 := k1 263 (by omega) (by omega)
      have skip : ∀ z : (adjF (μ 263) l[hd.toNat] v.toNat → 0 ≤ ω 209 v.toNat), v < μ 263 3 → K (l'.length : Int) (v + 1) ω := by
        intro z lt
        refine hK _ _ lt ⟨l', hx, ex, rfl, k1, k2, k3, fun u hu a => ?_⟩
        by_cases q : u = v.toNat
        · subst q; exact z a
        · exact k4 u (by omega) a
      rw [e39]
      refine ⟨⟨by omega, by omega⟩, fun c => ⟨(24 - (hd + 1)).toNat, by omega, l', rfl, by omega, by omega, rfl, k1, k2, ?_⟩, fun c => s_farOf v0 (by omega) (fun _ _ => ⟨fun d => skip (fun _ => d) (by omega), fun d => s_isRung hO (by omega) (by omega) (by rw [e63]; exact ⟨v0, by omega⟩) (fun a _ _ => ⟨fun z => absurd z (by decide), fun _ => ⟨⟨by omega, by omega⟩, fun z => ?_, fun z => s_farOf (by omega) (by omega) (fun _ _ => ⟨⟨v0, by omega⟩, ?_, wl fun _ => ⟨⟨by omega, by omega⟩, wl fun _ => ?_⟩⟩)⟩⟩) (fun a _ _ => ⟨fun _ => skip (fun z => absurd (by rw [e63, Int.toNat_natCast]; exact z) a) (by omega), fun z => absurd z (by decide)⟩)⟩)⟩
      · rw [show (hd + 1).toNat = hd.toNat + 1 by omega]
        refine bfs_next k3 hx (fun u hu a => k4 u (by omega) (by rw [← ex]; exact a))
      · exfalso
        have := nodup_lt k3.1 k3.2.1 (v := v.toNat) (by omega) (fun q => d ((k3.2.2.1 v.toNat (by omega)).1 q))
        omega
      · have b11 := k3.2.2.2.2.2.2.2.2.2.2 hd.toNat hx
        have b4 := k3.2.2.2.1 l'[hd.toNat] (by omega)
        rw [Int.toNat_natCast, ← ex]
        exact ⟨by omega, by omega⟩
      · rw [e63, Int.toNat_natCast, ← ex] at a
        rw [Int.toNat_natCast, Int.toNat_natCast]
        have fa : ∀ x y : Int, wi (wi ω 209 v.toNat x) 210 l'.length y 209 = fun j => if j = v.toNat then x else ω 209 j := by
          intro x y
          funext j
          rw [wi_cell (by omega)]
          by_cases q : j = v.toNat
          · rw [q, wi_self]; simp
          · rw [wi_place q]; simp [q]
        refine hK _ _ (by omega) ⟨l' ++ [v.toNat], by simp; omega, ?_, by simp, fun k a b => ?_, rowL_s (rowL_c k2 (fun i hi => ?_)) ?_, ?_, fun u hu b => ?_⟩
        · rw [List.getElem_append_left hx]; exact ex
        · rw [← k1 k a b]; funext j; rw [wi_cell b, wi_cell a]
        · rw [wi_place (by omega), wi_cell (by omega)]
        · rw [wi_self]; omega
        · rw [fa]
          refine bfs_add k3 hx (by omega) d a ?_ (fun u hu => if_neg hu)
          rw [← ex]; exact if_pos rfl
        · rw [fa]
          show 0 ≤ if u = v.toNat then _ else _
          have b0 := (k3.2.2.1 _ lw').1 (List.getElem_mem hx)
          by_cases q : u = v.toNat
          · rw [if_pos q, ← ex]; omega
          · rw [if_neg q]; exact k4 u (by omega) b
