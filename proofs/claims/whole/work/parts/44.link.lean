/-! settle: what becomes what among good words, in rows -/
noncomputable def upL (R : Nat → Int) (w n : Nat) : List Nat := (List.range n).filter (fun v => decide (0 ≤ byF R w v))
noncomputable def dnL (R : Nat → Int) (v n : Nat) : List Nat := (List.range n).filter (fun w => decide (0 ≤ byF R w v))
theorem upL_y {R : Nat → Int} {w n : Nat} (h : 0 ≤ byF R w n) : upL R w (n + 1) = upL R w n ++ [n] := by simp [upL, List.range_succ, List.filter_append, h]
theorem upL_n {R : Nat → Int} {w n : Nat} (h : ¬ 0 ≤ byF R w n) : upL R w (n + 1) = upL R w n := by simp [upL, List.range_succ, List.filter_append, h]
theorem dnL_y {R : Nat → Int} {v n : Nat} (h : 0 ≤ byF R n v) : dnL R v (n + 1) = dnL R v n ++ [n] := by simp [dnL, List.range_succ, List.filter_append, h]
theorem dnL_n {R : Nat → Int} {v n : Nat} (h : ¬ 0 ≤ byF R n v) : dnL R v (n + 1) = dnL R v n := by simp [dnL, List.range_succ, List.filter_append, h]
theorem upL_le (R : Nat → Int) (w n : Nat) : (upL R w n).length ≤ n := by
  unfold upL
  exact Nat.le_trans (List.length_filter_le _ _) (by simp)
theorem dnL_le (R : Nat → Int) (v n : Nat) : (dnL R v n).length ≤ n := by
  unfold dnL
  exact Nat.le_trans (List.length_filter_le _ _) (by simp)
def rowL (f : Nat → Int) (l : List Nat) : Prop := ∀ i, (h : i < l.length) → f i = (l[i] : Nat)
theorem rowL_c {f g : Nat → Int} {l : List Nat} (h : rowL f l) (e : ∀ i, i < l.length → g i = f i) : rowL g l := fun i hi => (e i hi).trans (h i hi)
theorem rowL_s {f : Nat → Int} {l : List Nat} {a : Nat} (h : rowL f l) (e : f l.length = a) : rowL f (l ++ [a]) := by
  intro i hi
  rw [List.length_append] at hi
  by_cases q : i < l.length
  · rw [List.getElem_append_left q]; exact h i q
  · have : i = l.length := by simp at hi; omega
    subst this
    rw [e]; simp
/-- up to where w's row has been gone through, while w0's is at v0 -/
def upTo (w0 v0 w : Nat) : Nat := if w < w0 then 24 else if w = w0 then v0 else 0
def dnTo (w0 v0 v : Nat) : Nat := if v < v0 then w0 + 1 else w0
def lnk (ν : xM) (R : Nat → Int) (w0 v0 : Nat) : Prop := (∀ w v : Nat, w < 25 → v < 24 → (w < w0 ∨ (w = w0 ∧ v < v0)) → ν (101 + w) v = byF R w v)
  ∧ (∀ w : Nat, w < 25 → ν 178 w = (upL R w (upTo w0 v0 w)).length ∧ rowL (ν (127 + w)) (upL R w (upTo w0 v0 w)) ∧ ∀ i, (h : i < (upL R w (upTo w0 v0 w)).length) → ν (153 + w) i = byF R w (upL R w (upTo w0 v0 w))[i])
  ∧ (∀ v : Nat, v < 24 → ν 204 v = (dnL R v (dnTo w0 v0 v)).length ∧ rowL (ν (180 + v)) (dnL R v (dnTo w0 v0 v)))
def inG (k : Nat) : Prop := (101 ≤ k ∧ k < 126) ∨ (127 ≤ k ∧ k < 152) ∨ (153 ≤ k ∧ k < 179) ∨ (180 ≤ k ∧ k < 205)
theorem lnk_row {ν : xM} {R : Nat → Int} {w0 : Nat} (h : lnk ν R w0 24) : lnk ν R (w0 + 1) 0 := by
  obtain ⟨a, b, c⟩ := h
  refine ⟨fun w v h1 h2 h3 => a w v h1 h2 (by omega), fun w hw => ?_, fun v hv => ?_⟩
  · have e : upL R w (upTo (w0 + 1) 0 w) = upL R w (upTo w0 24 w) := by
      unfold upTo
      by_cases q : w < w0
      · rw [if_pos (by omega), if_pos q]
      · by_cases q2 : w = w0
        · rw [if_pos (by omega), if_neg q, if_pos q2]
        · rw [if_neg (by omega), if_neg q, if_neg q2]
          split <;> rfl
    rw [e]; exact b w hw
  · have e : dnTo (w0 + 1) 0 v = dnTo w0 24 v := by unfold dnTo; rw [if_neg (by omega), if_pos hv]
    rw [e]; exact c v hv
/-- one pair more, that doesn't grow -/
theorem lnk_no {ν : xM} {R : Nat → Int} {w v : Nat} (hw25 : w < 25) (hv : v < 24) (h : lnk ν R w v) (hb : ¬ 0 ≤ byF R w v) (x : Int) (hx : x = byF R w v) : lnk (wi ν (101 + w) v x) R w (v + 1) := by
  obtain ⟨a, b, c⟩ := h
  refine ⟨fun w' v' h1 h2 h3 => ?_, fun w' hw => ?_, fun v' hv' => ?_⟩
  · by_cases e : w' = w ∧ v' = v
    · rw [e.1, e.2, wi_self, hx]
    · rw [← a w' v' h1 h2 (by omega)]
      by_cases e2 : w' = w
      · rw [e2]; exact wi_place (by omega)
      · exact wi_cell (by omega)
  · have e : upL R w' (upTo w (v + 1) w') = upL R w' (upTo w v w') := by
      unfold upTo
      by_cases q2 : w' = w
      · subst q2
        simp only [Nat.lt_irrefl, if_false, if_true]
        exact upL_n hb
      · rw [if_neg q2, if_neg q2]
    rw [e]
    have := b w' hw
    refine ⟨?_, rowL_c this.2.1 (fun i _ => wi_cell (by omega)), fun i hi => ?_⟩
    · rw [wi_cell (by omega)]; exact this.1
    · rw [wi_cell (by omega)]; exact this.2.2 i hi
  · have e : dnL R v' (dnTo w (v + 1) v') = dnL R v' (dnTo w v v') := by
      unfold dnTo
      by_cases q2 : v' = v
      · subst q2
        rw [if_pos (by omega), if_neg (by omega)]
        exact dnL_n hb
      · by_cases q3 : v' < v
        · rw [if_pos (by omega), if_pos q3]
        · rw [if_neg (by omega), if_neg q3]
    rw [e]
    have := c v' hv'
    exact ⟨by rw [wi_cell (by omega)]; exact this.1, rowL_c this.2 (fun i _ => wi_cell (by omega))⟩
/-- one that does -/
theorem s_link {μ : xM} {R : Nat → Int} {w v : Nat} {Q : xM → Prop} (hw : w < 25) (hv : v < 24) (h : lnk μ R w v) (hb : 0 ≤ byF R w v) (hx : wi μ (101 + w) v (byF R w v) = μ ∨ True) (ν : xM) (hν : ν = wi μ (101 + w) v (byF R w v))
    (hq : ∀ ω, (∀ k, ¬ inG k → ω k = μ k) → lnk ω R w (v + 1) → Q ω) : tX1_link w v ν Q := by
  obtain ⟨a, b, c⟩ := h
  have ul := upL_le R w v
  have dl := dnL_le R v w
  have b1 := b w hw
  have c1 := c v hv
  have u0 : upTo w v w = v := by simp [upTo]
  have d0 : dnTo w v v = w := by simp [dnTo]
  rw [u0] at b1
  rw [d0] at c1
  have n178 : ν 178 w = (upL R w v).length := by rw [hν, wi_cell (by omega)]; exact b1.1
  have n204 : ν 204 v = (dnL R v w).length := by rw [hν, wi_cell (by omega)]; exact c1.1
  intro _ _ _
  rw [Int.toNat_natCast, Int.toNat_natCast, n178, n204, Int.toNat_natCast]
  refine ⟨⟨by omega, by omega⟩, fun z => by omega, fun _ => ⟨⟨by omega, by omega⟩, fun z => by omega, fun _ => ⟨⟨by omega, by omega⟩, wl fun _ => ?_⟩⟩⟩
  obtain ⟨m1, e1⟩ : ∃ m1, m1 = wi ν (127 + w) (upL R w v).length (v : Int) := ⟨_, rfl⟩
  rw [← e1]
  have x1 : m1 178 w = (upL R w v).length := by rw [e1, wi_cell (by omega)]; exact n178
  have x2 : m1 (101 + w) v = byF R w v := by rw [e1, wi_cell (by omega), hν, wi_self]
  rw [x1, x2, Int.toNat_natCast]
  refine ⟨⟨by omega, by omega⟩, wl fun _ => ?_⟩
  obtain ⟨m2, e2⟩ : ∃ m2, m2 = wi m1 (153 + w) (upL R w v).length (byF R w v) := ⟨_, rfl⟩
  rw [← e2]
  have x3 : m2 178 w = (upL R w v).length := by
    rw [e2]
    by_cases q : 178 = 153 + w
    · omega
    · rw [wi_cell q]; exact x1
  rw [x3]
  refine ⟨⟨by omega, by omega⟩, wl fun _ => ?_⟩
  obtain ⟨m3, e3⟩ : ∃ m3, m3 = wi m2 178 w ((upL R w v).length + 1) := ⟨_, rfl⟩
  rw [← e3]
  have x4 : m3 204 v = (dnL R v w).length := by rw [e3, wi_cell (by omega), e2, wi_cell (by omega), e1, wi_cell (by omega)]; exact n204
  rw [x4, Int.toNat_natCast]
  refine ⟨⟨by omega, by omega⟩, wl fun _ => ?_⟩
  obtain ⟨m4, e4⟩ : ∃ m4, m4 = wi m3 (180 + v) (dnL R v w).length (w : Int) := ⟨_, rfl⟩
  rw [← e4]
  have x5 : m4 204 v = (dnL R v w).length := by rw [e4, wi_cell (by omega)]; exact x4
  rw [x5]
  refine ⟨⟨by omega, by omega⟩, wl fun _ => hq _ (fun k hk => ?_) ⟨fun w' v' h1 h2 h3 => ?_, fun w' hw' => ?_, fun v' hv' => ?_⟩⟩
  · funext j
    unfold inG at hk
    rw [wi_cell (by omega), e4, wi_cell (by omega), e3, wi_cell (by omega), e2, wi_cell (by omega), e1, wi_cell (by omega), hν, wi_cell (by omega)]
  · rw [wi_cell (by omega), e4, wi_cell (by omega), e3, wi_cell (by omega), e2, wi_cell (by omega), e1, wi_cell (by omega), hν]
    by_cases e : w' = w ∧ v' = v
    · rw [e.1, e.2, wi_self]
    · rw [← a w' v' h1 h2 (by omega)]
      by_cases e2 : w' = w
      · rw [e2]; exact wi_place (by omega)
      · exact wi_cell (by omega)
  · by_cases q : w' = w
    · subst q
      have ue : upL R w' (upTo w' (v + 1) w') = upL R w' v ++ [v] := by
        have : upTo w' (v + 1) w' = v + 1 := by simp [upTo]
        rw [this]; exact upL_y hb
      rw [ue]
      have f127 : ∀ i, wi m4 204 v ((dnL R v w').length + 1) (127 + w') i = wi ν (127 + w') (upL R w' v).length (v : Int) (127 + w') i := by
        intro i
        rw [wi_cell (by omega), e4, wi_cell (by omega), e3, wi_cell (by omega), e2, wi_cell (by omega), e1]
      have f153 : ∀ i, wi m4 204 v ((dnL R v w').length + 1) (153 + w') i = wi m1 (153 + w') (upL R w' v).length (byF R w' v) (153 + w') i := by
        intro i
        rw [wi_cell (by omega), e4, wi_cell (by omega), e3, wi_cell (by omega), e2]
      refine ⟨?_, rowL_s (rowL_c b1.2.1 (fun i hi => ?_)) ?_, fun i hi => ?_⟩
      · rw [wi_cell (by omega), e4, wi_cell (by omega), e3, wi_self]; simp
      · rw [f127, wi_place (by omega), hν, wi_cell (by omega)]
      · rw [f127, wi_self]
      · rw [f153]
        rw [List.length_append] at hi
        by_cases q : i < (upL R w' v).length
        · rw [List.getElem_append_left q, wi_place (by omega), e1, wi_cell (by omega), hν, wi_cell (by omega)]
          exact b1.2.2 i q
        · have : i = (upL R w' v).length := by simp at hi; omega
          subst this
          rw [wi_self]; simp
    · have ue : upTo w (v + 1) w' = upTo w v w' := by unfold upTo; rw [if_neg q, if_neg q]
      rw [ue]
      have := b w' hw'
      have f : ∀ k j, k = 127 + w' ∨ k = 153 + w' → wi m4 204 v ((dnL R v w).length + 1) k j = μ k j := by
        intro k j hk
        rw [wi_cell (by omega), e4, wi_cell (by omega), e3, wi_cell (by omega), e2, wi_cell (by omega), e1, wi_cell (by omega), hν, wi_cell (by omega)]
      refine ⟨?_, rowL_c this.2.1 (fun i _ => f _ i (by omega)), fun i hi => ?_⟩
      · rw [wi_cell (by omega), e4, wi_cell (by omega), e3, wi_place q, e2, wi_cell (by omega), e1, wi_cell (by omega), hν, wi_cell (by omega)]
        exact this.1
      · rw [f _ i (by omega)]; exact this.2.2 i hi
  · by_cases q : v' = v
    · subst q
      have ue : dnL R v' (dnTo w (v' + 1) v') = dnL R v' w ++ [w] := by
        have : dnTo w (v' + 1) v' = w + 1 := by simp [dnTo]
        rw [this]; exact dnL_y hb
      rw [ue]
      refine ⟨?_, rowL_s (rowL_c c1.2 (fun i hi => ?_)) ?_⟩
      · rw [wi_self]; simp
      · rw [wi_cell (by omega), e4, wi_place (by omega), e3, wi_cell (by omega), e2, wi_cell (by omega), e1, wi_cell (by omega), hν, wi_cell (by omega)]
      · rw [wi_cell (by omega), e4, wi_self]
    · have ue : dnTo w (v + 1) v' = dnTo w v v' := by
        unfold dnTo
        by_cases q3 : v' < v
        · rw [if_pos (by omega), if_pos q3]
        · rw [if_neg (by omega), if_neg q3]
      rw [ue]
      have := c v' hv'
      refine ⟨?_, rowL_c this.2 (fun i _ => ?_)⟩
      · rw [wi_place q, e4, wi_cell (by omega), e3, wi_cell (by omega), e2, wi_cell (by omega), e1, wi_cell (by omega), hν, wi_cell (by omega)]
        exact this.1
      · rw [wi_cell (by omega), e4, wi_cell (by omega), e3, wi_cell (by omega), e2, wi_cell (by omega), e1, wi_cell (by omega), hν, wi_cell (by omega)]
