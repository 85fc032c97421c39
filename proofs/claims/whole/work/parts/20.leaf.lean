/-! leaves: what small methods answer, told so that a proof goes on from it -/
def hWord (μ : xM) (o : Nat) (w : Int) : Prop := 0 ≤ w ∧ w < μ o 3 ∧ w < 24
def hGood (μ : xM) (o : Nat) (w : Int) : Prop := hWord μ o w ∧ μ (o + 29) w.toNat = 0 ∧ μ (o + 1) w.toNat ≤ μ o 1
theorem s_within {v lo hi : Int} {μ : xM} {Q : Int → xM → Prop} (h1 : lo ≤ v → v ≤ hi → Q 1 μ) (h0 : ¬ (lo ≤ v ∧ v ≤ hi) → Q 0 μ) : tX11_within v lo hi μ Q := by
  intro _ _ _ _
  exact ⟨fun c => h0 (by omega), fun c => ⟨fun d => h0 (by omega), fun d => h1 (by omega) (by omega)⟩⟩
theorem s_good {μ : xM} {Q : xM → Prop} (h : Q (wi (wi μ 260 0 0) 260 11 0)) : tX11_good μ Q := by
  intro _ μ1 e1 _ μ2 e2 _
  subst e1; subst e2
  exact h
theorem s_no {v : Int} {μ : xM} {Q : Int → xM → Prop} (h : Q (-1) (wi μ 260 11 v)) : tX11_no v μ Q := by
  intro _ _ μ1 e1 _
  subst e1
  exact h
theorem s_isNot {v : Int} {μ : xM} {Q : Int → xM → Prop} (h : Q 0 (wi μ 260 11 v)) : tX11_isNot v μ Q := by
  intro _ _ μ1 e1 _
  subst e1
  exact h
theorem s_granted {v : Int} {μ : xM} {Q : Int → xM → Prop} (h : Q v (wi μ 0 18 0)) : tX10_granted v μ Q := by
  intro _ _ μ1 e1 _
  subst e1
  exact h
theorem s_refused {v : Int} {μ : xM} {Q : Int → xM → Prop} (h : Q (-1) (wi μ 0 18 v)) : tX10_refused v μ Q := by
  intro _ _ μ1 e1 _
  subst e1
  exact h
theorem s_allowed {μ : xM} {Q : Int → xM → Prop} (h : Q 1 (wi μ 0 18 0)) : tX10_allowed μ Q := by
  intro _ μ1 e1 _
  subst e1
  exact h
theorem s_denied {v : Int} {μ : xM} {Q : Int → xM → Prop} (h : Q 0 (wi μ 0 18 v)) : tX10_denied v μ Q := by
  intro _ _ μ1 e1 _
  subst e1
  exact h
theorem s_isOpen {o : Nat} {μ : xM} {Q : Int → xM → Prop} (h1 : 0 < μ o 0 → Q 1 μ) (h0 : μ o 0 ≤ 0 → Q 0 μ) : tX2_isOpen o μ Q := by
  intro _
  exact ⟨fun c => h0 (by omega), fun c => h1 (by omega)⟩
theorem s_hWord {o : Nat} {w : Int} {μ : xM} {Q : Int → xM → Prop} (h1 : hWord μ o w → Q 1 μ) (h0 : ¬ hWord μ o w → Q 0 μ) : tX2_isWord o w μ Q := by
  intro _ _
  unfold hWord at h1 h0
  exact ⟨fun c => h0 (by omega), fun c => ⟨fun d => h0 (by omega), fun d => ⟨fun e => h0 (by omega), fun e => h1 (by omega)⟩⟩⟩
theorem s_hLen {o : Nat} {w : Int} {μ : xM} {Q : Int → xM → Prop} (h1 : hWord μ o w → Q (μ (o + 1) w.toNat) μ) (h0 : ¬ hWord μ o w → Q 0 μ) : tX2_lengthOf o w μ Q := by
  intro _ _
  exact s_hWord (fun c => fun _ _ => ⟨fun d => absurd d (by omega), fun _ => ⟨⟨c.1, c.2.2⟩, h1 c⟩⟩) (fun c => fun _ _ => ⟨fun _ => h0 c, fun d => absurd d (by omega)⟩)
theorem s_hGood {o : Nat} {w : Int} {μ : xM} {Q : Int → xM → Prop} (h1 : hGood μ o w → Q 1 μ) (h0 : ¬ hGood μ o w → Q 0 μ) : tX2_isGood o w μ Q := by
  intro _ _
  refine s_hWord (fun c => fun _ _ => ⟨fun d => absurd d (by omega), fun _ => ⟨⟨c.1, c.2.2⟩, fun d => h0 (fun g => d g.2.1), fun d => ⟨fun e => h0 (fun g => ?_), fun e => h1 ⟨c, d, ?_⟩⟩⟩⟩) (fun c => fun _ _ => ⟨fun _ => h0 (fun g => c g.1), fun d => absurd d (by omega)⟩)
  · have := g.2.2; omega
  · omega
theorem s_hGlyph {o : Nat} {w i : Int} {μ : xM} {Q : Int → xM → Prop} (h1 : hWord μ o w → 0 ≤ i → i < 6 → Q (μ (o + 4 + w.toNat) i.toNat) μ) (h0 : ¬ (hWord μ o w ∧ 0 ≤ i ∧ i < 6) → Q (-1) μ) : tX2_glyphOf o w i μ Q := by
  intro _ _ _
  exact s_hWord (fun c => fun _ _ => ⟨fun d => absurd d (by omega), fun _ => ⟨fun e => h0 (fun g => by omega), fun e => ⟨fun f => h0 (fun g => by omega), fun f => ⟨⟨c.1, by have := c.2.2; omega⟩, ⟨by omega, by omega⟩, h1 c (by omega) (by omega)⟩⟩⟩⟩) (fun c => fun _ _ => ⟨fun _ => h0 (fun g => c g.1), fun d => absurd d (by omega)⟩)
/-! an array filled -/
def fillM (μ : xM) (k n : Nat) (v : Int) : xM := fun a j => if a = k ∧ j < n then v else μ a j
theorem s_fill {k n : Nat} {v : Int} {μ : xM} {Q : xM → Prop} (hn : n ≤ 200000) (h : Q (fillM μ k n v)) : tJ7_fill_53178 k n v μ Q := by
  intro _ _
  refine ⟨fun m i ν => 0 ≤ i ∧ i + m = n ∧ ν = fillM μ k i.toNat v, ⟨n, by omega, by omega, ?_⟩, ?_⟩
  · funext a j
    simp [fillM]
  · rintro m i ν ⟨h0, h1, rfl⟩ _
    refine ⟨⟨by omega, by omega⟩, fun c => ?_, fun c => ⟨⟨h0, by omega⟩, fun ω e _ => ⟨m - 1, by omega, by omega, by omega, ?_⟩⟩⟩
    · have e1 : i.toNat = n := by omega
      rw [e1]
      exact h
    · rw [e]
      funext a j
      have e2 : (i + 1).toNat = i.toNat + 1 := by omega
      simp only [wi, fillM, e2]
      by_cases e3 : a = k
      · by_cases e4 : j = i.toNat
        · simp [e3, e4]
        · by_cases e5 : j < i.toNat
          · simp [e3, e4, e5, Nat.lt_succ_of_lt e5]
          · have : ¬ j < i.toNat + 1 := by omega
            simp [e3, e4, e5, this]
      · simp [e3]
/-! the first cases -/
