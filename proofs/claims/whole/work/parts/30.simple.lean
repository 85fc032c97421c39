/-! calls without loops that only read -/
theorem iOpen_m {μ : xM} (h : iOpen μ) (a : Int) : iOpen (wi (wi (wi μ 0 18 a) 260 0 0) 260 11 0) := iOpen_a (m1_a μ a) h
theorem iShut_m {μ : xM} (h : iShut μ) (a : Int) : iShut (wi (wi (wi μ 0 18 a) 260 0 0) 260 11 0) := iShut_a (m1_a μ a) h
theorem m_263 (μ : xM) (a : Int) : (wi (wi (wi μ 0 18 a) 260 0 0) 260 11 0) 263 = μ 263 := rfl
theorem k_barred {μ : xM} {w : Int} {Q : Int → xM → Prop} (h : iOpen μ) (h1 : wordF (μ 263) w → μ 263 (199 + w.toNat) = 1 → Q 1 μ) (h2 : wordF (μ 263) w → μ 263 (199 + w.toNat) = 0 → Q 0 μ) (h0 : ¬ wordF (μ 263) w → Q 0 μ) : tX2_isBarred 39 w μ Q := by
  have b := h.2.1.W
  intro _ _
  refine k_word h (fun q => fun _ _ => ⟨fun z => absurd z (by decide), fun _ => ⟨⟨q.1, by have := q.2; omega⟩, ?_⟩⟩) (fun q => fun _ _ => ⟨fun _ => h0 q, fun z => absurd z (by decide)⟩)
  have q1 := q.1
  have q2 := q.2
  have c := (h.2.2.1.2.1 w.toNat (by omega) (by omega)).2.2.1
  have d := h.2.1.bar (w := w.toNat) (by omega)
  show (μ 68 w.toNat = 0 → Q 0 μ) ∧ (¬ μ 68 w.toNat = 0 → Q 1 μ)
  rw [c]
  exact ⟨fun z => h2 q z, fun z => h1 q (by omega)⟩
theorem c_7 {sc : Int → Int} {i : Int} {μ : xM} {K : xM → Prop} (h : iOpen μ ∨ iShut μ) (hK : ∀ a, a ≠ 4 → K (tr μ a)) : tl_7 sc i μ K := by
  obtain ⟨w, ew⟩ : ∃ w, w = sc (i + 1) := ⟨_, rfl⟩
  unfold tl_7
  rw [← ew]
  rcases h with h | h
  · have bW := h.2.1.W
    have hg := h.2.2.2.2.2.2.2.2.1 w.toNat
    repeat' (first
      | with_reducible refine k_word h (fun _ => ?_) (fun _ => ?_)
      | with_reducible refine k_good h (fun _ => ?_) (fun _ => ?_)
      | with_reducible refine s_chainOf ?_ ?_ ?_
      | with_reducible refine s_granted ?_
      | with_reducible refine s_refused ?_
      | with_reducible refine s_good ?_
      | with_reducible refine r_word (iOpen_m h _) (m_263 μ _) (fun _ => ?_) (fun _ => ?_)
      | with_reducible refine r_good (m_263 μ _) (by assumption) (by omega) (fun _ => ?_) (fun _ => ?_)
      | with_reducible refine s_no ?_
      | (intro zq; exact absurd zq (by decide))
      | intro _
      | with_reducible refine And.intro ?_ ?_)
    all_goals first | rfl | contradiction | (exact K_no (hK _ (by decide))) | (exact hK _ (by decide)) | omega | (unfold goodI wordF at *; omega) | skip
    exact (hg (by unfold wordF at *; omega)).1
  · 
    repeat' (first
      | with_reducible refine k_wordS h ?_
      | with_reducible refine s_refused ?_
      | with_reducible refine s_good ?_
      | with_reducible refine r_wordS (iShut_m h _) ?_
      | with_reducible refine s_no ?_
      | (intro zq; exact absurd zq (by decide))
      | intro _
      | with_reducible refine And.intro ?_ ?_)
    all_goals first | rfl | contradiction | (exact K_no (hK _ (by decide))) | (exact hK _ (by decide)) | omega | (unfold goodI wordF at *; omega) | skip
theorem c_27 {sc : Int → Int} {i : Int} {μ : xM} {K : xM → Prop} (h : iOpen μ ∨ iShut μ) (hK : ∀ a, a ≠ 4 → K (tr μ a)) : tl_27 sc i μ K := by
  obtain ⟨w, ew⟩ : ∃ w, w = sc (i + 1) := ⟨_, rfl⟩
  unfold tl_27
  rw [← ew]
  rcases h with h | h
  · have bW := h.2.1.W
    have hg := h.2.2.2.2.2.2.2.2.1 w.toNat
    repeat' (first
      | with_reducible refine k_word h (fun _ => ?_) (fun _ => ?_)
      | with_reducible refine k_good h (fun _ => ?_) (fun _ => ?_)
      | with_reducible refine s_riseOf ?_ ?_ ?_
      | with_reducible refine s_granted ?_
      | with_reducible refine s_refused ?_
      | with_reducible refine s_good ?_
      | with_reducible refine r_word (iOpen_m h _) (m_263 μ _) (fun _ => ?_) (fun _ => ?_)
      | with_reducible refine r_good (m_263 μ _) (by assumption) (by omega) (fun _ => ?_) (fun _ => ?_)
      | with_reducible refine s_no ?_
      | (intro zq; exact absurd zq (by decide))
      | intro _
      | with_reducible refine And.intro ?_ ?_)
    all_goals first | rfl | contradiction | (exact K_no (hK _ (by decide))) | (exact hK _ (by decide)) | omega | (unfold goodI wordF at *; omega) | skip
    exact (hg (by unfold wordF at *; omega)).2
  · 
    repeat' (first
      | with_reducible refine k_wordS h ?_
      | with_reducible refine s_refused ?_
      | with_reducible refine s_good ?_
      | with_reducible refine r_wordS (iShut_m h _) ?_
      | with_reducible refine s_no ?_
      | (intro zq; exact absurd zq (by decide))
      | intro _
      | with_reducible refine And.intro ?_ ?_)
    all_goals first | rfl | contradiction | (exact K_no (hK _ (by decide))) | (exact hK _ (by decide)) | omega | (unfold goodI wordF at *; omega) | skip
theorem c_4 {sc : Int → Int} {i : Int} {μ : xM} {K : xM → Prop} (h : iOpen μ ∨ iShut μ) (hK : ∀ a, a ≠ 4 → K (tr μ a)) : tl_4 sc i μ K := by
  obtain ⟨w, ew⟩ : ∃ w, w = sc (i + 1) := ⟨_, rfl⟩
  obtain ⟨x, ex⟩ : ∃ x, x = sc (i + 2) := ⟨_, rfl⟩
  unfold tl_4
  rw [← ew, ← ex]
  rcases h with h | h
  · have bW := h.2.1.W
    have z7 : wordF (μ 263) w → (7 + w).toNat = 7 + w.toNat := fun q => by have := q.1; omega
    have z175 : wordF (μ 263) w → (175 + w).toNat = 175 + w.toNat := fun q => by have := q.1; omega
    have z199 : wordF (μ 263) w → (199 + w).toNat = 199 + w.toNat := fun q => by have := q.1; omega
    have bb : wordF (μ 263) w → (μ 263 (199 + w.toNat) = 0 ∨ μ 263 (199 + w.toNat) = 1) := fun q => h.2.1.bar (by have := q.1; have := q.2; omega)
    repeat' (first
      | with_reducible refine k_word h (fun _ => ?_) (fun _ => ?_)
      | with_reducible refine k_good h (fun _ => ?_) (fun _ => ?_)
      | with_reducible refine k_len h (fun _ => ?_) (fun _ => ?_)
      | with_reducible refine k_val h (fun _ => ?_) (fun _ => ?_)
      | with_reducible refine k_barred h (fun _ _ => ?_) (fun _ _ => ?_) (fun _ => ?_)
      | with_reducible refine s_granted ?_
      | with_reducible refine s_refused ?_
      | with_reducible refine s_good ?_
      | with_reducible refine r_word (iOpen_m h _) (m_263 μ _) (fun _ => ?_) (fun _ => ?_)
      | with_reducible refine r_good (m_263 μ _) (by assumption) (by omega) (fun _ => ?_) (fun _ => ?_)
      | with_reducible refine s_no ?_
      | (intro zq; exact absurd zq (by decide))
      | intro _
      | with_reducible refine And.intro ?_ ?_)
    all_goals first | rfl | contradiction | (exact K_no (hK _ (by decide))) | (exact hK _ (by decide)) | omega | (unfold goodI wordF at *; omega) | skip
    all_goals (show _ = μ 263 _; first | rw [z7 (by assumption)] | rw [z175 (by assumption)] | (rw [z199 (by assumption)]; omega))
  · 
    repeat' (first
      | with_reducible refine k_wordS h ?_
      | with_reducible refine s_refused ?_
      | with_reducible refine s_good ?_
      | with_reducible refine r_wordS (iShut_m h _) ?_
      | with_reducible refine s_no ?_
      | (intro zq; exact absurd zq (by decide))
      | intro _
      | with_reducible refine And.intro ?_ ?_)
    all_goals first | rfl | contradiction | (exact K_no (hK _ (by decide))) | (exact hK _ (by decide)) | omega | (unfold goodI wordF at *; omega) | skip
