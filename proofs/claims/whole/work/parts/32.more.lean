/-! more calls that only read -/
theorem wl {A : xM} {P : xM → Prop} (h : xRan A → P A) : ∀ ν : xM, ν = A → xRan ν → P ν := by
  rintro _ rfl; exact h
theorem s_at {o : Nat} {t : Int} {μ : xM} {Q : Int → xM → Prop} (h1 : 0 ≤ t → t < 3 → Q (μ (o + 1) t.toNat) μ) (h0 : ¬ (0 ≤ t ∧ t < 3) → Q 24 μ) : tX4_at o t μ Q := by
  intro _ _
  exact ⟨fun c => h0 (by omega), fun c => ⟨fun d => h0 (by omega), fun d => ⟨⟨by omega, by omega⟩, h1 (by omega) (by omega)⟩⟩⟩
theorem c_2 {sc : Int → Int} {i : Int} {μ : xM} (hi : Inv μ) : tl_2 sc i μ Inv := by
  intro _ _ _ _ μ1 e1 _ _ _
  subst e1
  exact ⟨hi.2.1.1, Inv_th hi⟩
theorem c_3 {sc : Int → Int} {i : Int} {μ : xM} (hi : Inv μ) : tl_3 sc i μ Inv := by
  have e1 : wi μ 260 0 0 260 11 = μ 260 11 := rfl
  have e2 : wi μ 260 0 0 260 10 = μ 260 10 := rfl
  obtain ⟨_, h2, h3⟩ := hi.2.1
  intro _
  refine ⟨fun c _ _ _ μ1 q _ => ?_, fun c _ _ _ μ1 q _ => ?_⟩
  · subst q
    rw [e1]
    exact ⟨fun _ _ _ => ⟨rfl, Inv_th hi⟩, fun d => absurd (h2.trans d) c⟩
  · subst q
    rw [e1, e2]
    exact ⟨fun d => absurd (h2.symm.trans c) d, fun d _ _ => ⟨h3 d, Inv_th hi⟩⟩
theorem c_44 {sc : Int → Int} {i : Int} {μ : xM} (hi : Inv μ) : tl_44 sc i μ Inv := by
  intro _ _ _ _ μ1 e1 _ _ _
  subst e1
  exact ⟨hi.2.1.2.1, Inv_th hi⟩
/-- size(what) -/
theorem c_43 {sc : Int → Int} {i : Int} {μ : xM} (hi : Inv μ) : tl_43 sc i μ Inv := by
  have b9 := hi.1.1
  obtain ⟨w, ew⟩ : ∃ w, w = sc (i + 1) := ⟨_, rfl⟩
  unfold tl_43
  rw [← ew]
  have h := Inv_th hi
  intro _ _
  have main : ∀ r : Int, (w = 0 → r = μ 39 0) → (w = 1 → r = μ 39 1) → (w = 2 → r = μ 39 3) → (w = 3 → r = μ 39 4) → (w = 4 → r = μ 39 5) → (w = 5 → r = μ 39 6) → (w = 6 → r = μ 249 1) → (w = 7 → r = μ 249 0) → (w = 8 → r = μ 0 17) → (w = 9 → r = μ 35 0) → (w < 0 ∨ 9 < w → r = -1) →
      tX11_size w μ (fun r' ν => (xIn r') → xRan ν → ((r = r') ∧ (Inv ν))) := by
    intro r r0 r1 r2 r3 r4 r5 r6 r7 r8 r9 rx _ _ μ1 e1 _
    subst e1
    refine ⟨fun c9 => ⟨fun c => ?_, fun c => ?_⟩, fun c9 _ _ => ⟨(r9 c9).trans b9, h⟩⟩
    · rcases hi.os with q | q
      · obtain ⟨_, _, hh, hn, _⟩ := q
        have a0 := hh.1 0 (by omega); have a1 := hh.1 1 (by omega); have a3 := hh.1 3 (by omega); have a4 := hh.1 4 (by omega); have a5 := hh.1 5 (by omega); have a6 := hh.1 6 (by omega)
        have b3 := hn.1.2.1.1; have b4 := hn.1.2.2.1.1; have b8 := hn.2.1
        exact ⟨fun q _ _ => ⟨(r0 q).trans a0, h⟩, fun q _ _ => ⟨(r1 q).trans a1, h⟩, fun q _ _ => ⟨(r2 q).trans a3, h⟩, fun q _ _ => ⟨(r3 q).trans a4, h⟩, fun q _ _ => ⟨(r4 q).trans a5, h⟩, fun q _ _ => ⟨(r5 q).trans a6, h⟩, fun q _ _ => ⟨(r6 q).trans b4, h⟩, fun q _ _ => ⟨(r7 q).trans b3, h⟩, fun q _ _ => ⟨(r8 q).trans b8, h⟩, fun q _ _ => ⟨rx (by omega), h⟩⟩
      · exact absurd q.1 c
    · rcases hi.os with q | q
      · exact absurd (q.1.symm.trans c) (by decide)
      · obtain ⟨_, z, y0, y1, y7, _⟩ := q
        have z0 := z 0 (by omega); have z1 := z 1 (by omega); have z3 := z 3 (by omega); have z4 := z 4 (by omega); have z5 := z 5 (by omega); have z6 := z 6 (by omega)
        refine s_within (fun a b => fun _ _ => ⟨fun e => absurd e (by decide), fun _ _ _ => ⟨?_, h⟩⟩) (fun a => fun _ _ => ⟨fun _ _ _ => ⟨rx (by omega), h⟩, fun e => absurd e (by decide)⟩)
        rcases (show w = 0 ∨ w = 1 ∨ w = 2 ∨ w = 3 ∨ w = 4 ∨ w = 5 ∨ w = 6 ∨ w = 7 ∨ w = 8 by omega) with q | q | q | q | q | q | q | q | q
        · rw [r0 q, z0.1]
        · rw [r1 q, z1.1]
        · rw [r2 q, z3.1]
        · rw [r3 q, z4.1]
        · rw [r4 q, z5.1]
        · rw [r5 q, z6.1]
        · rw [r6 q, y1]
        · rw [r7 q, y0]
        · rw [r8 q, y7]
  refine ⟨fun q _ _ => main _ ?_ ?_ ?_ ?_ ?_ ?_ ?_ ?_ ?_ ?_ ?_, fun q _ _ => main _ ?_ ?_ ?_ ?_ ?_ ?_ ?_ ?_ ?_ ?_ ?_, fun q _ _ => main _ ?_ ?_ ?_ ?_ ?_ ?_ ?_ ?_ ?_ ?_ ?_, fun q _ _ => main _ ?_ ?_ ?_ ?_ ?_ ?_ ?_ ?_ ?_ ?_ ?_, fun q _ _ => main _ ?_ ?_ ?_ ?_ ?_ ?_ ?_ ?_ ?_ ?_ ?_, fun q _ _ => main _ ?_ ?_ ?_ ?_ ?_ ?_ ?_ ?_ ?_ ?_ ?_, fun q _ _ => main _ ?_ ?_ ?_ ?_ ?_ ?_ ?_ ?_ ?_ ?_ ?_, fun q _ _ => main _ ?_ ?_ ?_ ?_ ?_ ?_ ?_ ?_ ?_ ?_ ?_, fun q _ _ => main _ ?_ ?_ ?_ ?_ ?_ ?_ ?_ ?_ ?_ ?_ ?_, fun q _ _ => main _ ?_ ?_ ?_ ?_ ?_ ?_ ?_ ?_ ?_ ?_ ?_, fun q _ _ => main _ ?_ ?_ ?_ ?_ ?_ ?_ ?_ ?_ ?_ ?_ ?_⟩ <;> intro q2 <;> omega
/-- grows -/
theorem c_6 {sc : Int → Int} {i : Int} {μ : xM} (hi : Inv μ) : tl_6 sc i μ Inv := by
  obtain ⟨w, ew⟩ : ∃ w, w = sc (i + 1) := ⟨_, rfl⟩
  obtain ⟨v, ev⟩ : ∃ w, w = sc (i + 2) := ⟨_, rfl⟩
  unfold tl_6
  rw [← ew, ← ev]
  have hK : ∀ a, a ≠ 4 → Inv (tr μ a) := fun a => Inv_tr hi
  rcases hi.os with h | h
  · have bW := h.2.1.W
    have e : wordF (μ 263) w → wordF (μ 263) v → μ 267 ((24 * w + v).toNat) = byF (μ 263) w.toNat v.toNat := fun q q2 => by
      have := q.1; have := q.2; have := q2.1; have := q2.2
      rw [← (h.2.2.2.2.2.1 w.toNat v.toNat (by omega) (by omega)).1]
      congr 1; omega
    repeat' (first
      | with_reducible refine k_word h (fun _ => ?_) (fun _ => ?_)
      | with_reducible refine k_good h (fun _ => ?_) (fun _ => ?_)
      | with_reducible refine k_letterOf h ?_ ?_ ?_ ?_ ?_
      | with_reducible refine s_granted ?_
      | with_reducible refine s_refused ?_
      | with_reducible refine s_good ?_
      | with_reducible refine r_word (iOpen_m h _) (m_263 μ _) (fun _ => ?_) (fun _ => ?_)
      | with_reducible refine r_good (m_263 μ _) (by assumption) (by omega) (fun _ => ?_) (fun _ => ?_)
      | with_reducible refine s_no ?_
      | (intro zq; exact absurd zq (by decide))
      | intro _
      | with_reducible refine And.intro ?_ ?_)
    all_goals first | rfl | contradiction | (exact K_no (hK _ (by decide))) | (exact hK _ (by decide)) | omega | (unfold goodI wordF at *; omega) | skip
    all_goals (have e := e (by assumption) (by assumption))
    all_goals (first | (simp only [wi] at *; simp at *; omega) | skip)
  · 
    repeat' (first
      | with_reducible refine k_wordS h ?_
      | with_reducible refine s_refused ?_
      | with_reducible refine s_good ?_
      | with_reducible refine r_wordS (iShut_m h _) ?_
      | with_reducible refine s_no ?_
      | (intro zq; exact absurd zq (by decide))
      | intro _
      | with_reducible refine And.intro ?_ ?_)
    all_goals first | rfl | contradiction | (exact K_no (hK _ (by decide))) | (exact hK _ (by decide)) | omega | (unfold goodI wordF at *; omega) | skip
/-- grundy -/
theorem c_10 {sc : Int → Int} {i : Int} {μ : xM} (hi : Inv μ) : tl_10 sc i μ Inv := by
  obtain ⟨w, ew⟩ : ∃ w, w = sc (i + 1) := ⟨_, rfl⟩
  unfold tl_10
  rw [← ew]
  have hK : ∀ a, a ≠ 4 → Inv (tr μ a) := fun a => Inv_tr hi
  rcases hi.os with h | h
  · have bW := h.2.1.W
    have h14 := h.1
    have hg := h.2.2.2.2.2.2.2.2.2.1
    have hz := hg 24 (Or.inr rfl)
    repeat' (first
      | with_reducible refine k_open h ?_
      | with_reducible refine k_word h (fun _ => ?_) (fun _ => ?_)
      | with_reducible refine k_good h (fun _ => ?_) (fun _ => ?_)
      | with_reducible refine s_nimOf ?_ ?_ ?_
      | with_reducible refine s_granted ?_
      | with_reducible refine s_refused ?_
      | with_reducible refine s_good ?_
      | with_reducible refine r_word (iOpen_m h _) (m_263 μ _) (fun _ => ?_) (fun _ => ?_)
      | with_reducible refine r_good (m_263 μ _) (by assumption) (by omega) (fun _ => ?_) (fun _ => ?_)
      | with_reducible refine s_no ?_
      | (intro zq; exact absurd zq (by decide))
      | (intro zq; exact absurd (h14.symm.trans zq) (by decide))
      | intro _
      | with_reducible refine And.intro ?_ ?_)
    all_goals first | rfl | contradiction | (exact K_no (hK _ (by decide))) | (exact hK _ (by decide)) | omega | (unfold goodI wordF at *; omega) | skip
    all_goals first | exact hz | exact hg _ (by unfold wordF at *; omega)
  · have h14 := h.1
    repeat' (first
      | with_reducible refine k_shut h ?_
      | with_reducible refine s_refused ?_
      | with_reducible refine s_good ?_
      | with_reducible refine s_no ?_
      | (intro zq; exact absurd zq (by decide))
      | (intro zq; exact absurd h14 zq)
      | intro _
      | with_reducible refine And.intro ?_ ?_)
    all_goals first | rfl | contradiction | (exact K_no (hK _ (by decide))) | (exact hK _ (by decide)) | omega | (unfold goodI wordF at *; omega) | skip
