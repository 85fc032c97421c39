theorem c_5 {sc : Int → Int} {i : Int} {μ : xM} {K : xM → Prop} (h : iOpen μ ∨ iShut μ) (hK : ∀ a, a ≠ 4 → K (tr μ a)) : tl_5 sc i μ K := by
  obtain ⟨w, ew⟩ : ∃ w, w = sc (i + 1) := ⟨_, rfl⟩
  obtain ⟨x, ex⟩ : ∃ x, x = sc (i + 2) := ⟨_, rfl⟩
  unfold tl_5
  rw [← ew, ← ex]
  rcases h with h | h
  · have bW := h.2.1.W
    have ok := h.2.1
    by_cases hw : wordF (μ 263) w
    · have w0 := hw.1
      have w1 := hw.2
      have z : (7 + w).toNat = 7 + w.toNat := by omega
      have bl := h.2.1.len (w := w.toNat) (by omega)
      have e7 : ∀ a, wi (wi (wi μ 0 18 a) 260 0 0) 260 11 0 263 ((7 + w).toNat) = μ 263 (7 + w.toNat) := fun a => by rw [z]; rfl
      have e70 := e7 0
      have e71 := e7 1
      have hin : ∀ a, xIn (wi (wi (wi μ 0 18 a) 260 0 0) 260 11 0 263 ((7 + w).toNat) - 1) := fun a => by rw [e7]; exact ⟨by omega, by omega⟩
      repeat' (first
        | with_reducible refine hin _
        | with_reducible refine k_word h (fun _ => ?_) (fun _ => ?_)
        | with_reducible refine k_len h (fun _ => ?_) (fun _ => ?_)
        | with_reducible refine k_glyph h hw (by omega) (by omega) ?_
        | with_reducible refine s_granted ?_
        | with_reducible refine s_refused ?_
        | with_reducible refine s_good ?_
        | with_reducible refine r_word (iOpen_m h _) (m_263 μ _) (fun _ => ?_) (fun _ => ?_)
        | with_reducible refine s_within (fun _ _ => ?_) (fun _ => ?_)
        | with_reducible refine r_letterAt (m_263 μ _) ok hw ?_ ?_ ?_
        | with_reducible refine s_no ?_
        | (intro zq; exact absurd zq (by decide))
        | intro _
        | with_reducible refine And.intro ?_ ?_)
      all_goals first | rfl | contradiction | (exact K_no (hK _ (by decide))) | (exact hK _ (by decide)) | omega
    · 
      repeat' (first
        | with_reducible refine k_word h (fun _ => ?_) (fun _ => ?_)
        | with_reducible refine s_refused ?_
        | with_reducible refine s_good ?_
        | with_reducible refine r_word (iOpen_m h _) (m_263 μ _) (fun _ => ?_) (fun _ => ?_)
        | with_reducible refine s_no ?_
        | (intro zq; exact absurd zq (by decide))
        | (intro zq; exact absurd zq hw)
        | intro _
        | with_reducible refine And.intro ?_ ?_)
      all_goals first | rfl | contradiction | (exact K_no (hK _ (by decide))) | (exact hK _ (by decide)) | omega | (unfold goodI wordF at *; omega) | skip
  · 
    repeat' (first
      | with_reducible refine k_wordS h ?_
      | with_reducible refine s_refused ?_
      | with_reducible refine s_good ?_
      | with_reducible refine r_wordS (iShut_m h _) ?_
      | with_reducible refine s_no ?_
      | (intro zq; exact absurd zq (by decide))
      | intro _
      | with_reducible refine And.intro ?_ ?_)
    all_goals first | rfl | contradiction | (exact K_no (hK _ (by decide))) | (exact hK _ (by decide)) | omega | (unfold goodI wordF at *; omega) | skip
theorem c_41 {sc : Int → Int} {i : Int} {μ : xM} {K : xM → Prop} (h : iOpen μ ∨ iShut μ) (hK : ∀ a, a ≠ 4 → K (tr μ a)) : tl_41 sc i μ K := by
  obtain ⟨w, ew⟩ : ∃ w, w = sc (i + 1) := ⟨_, rfl⟩
  unfold tl_41
  rw [← ew]
  rcases h with h | h
  · have bN := h.2.1.N
    repeat' (first
      | with_reducible refine k_guest h (fun _ _ => ?_) (fun _ => ?_)
      | with_reducible refine k_first h (fun _ _ => ?_) (fun _ => ?_)
      | with_reducible refine s_granted ?_
      | with_reducible refine s_refused ?_
      | with_reducible refine s_good ?_
      | with_reducible refine r_guest (iOpen_m h _) (m_263 μ _) (fun _ _ => ?_) (fun _ => ?_)
      | with_reducible refine s_no ?_
      | (intro zq; exact absurd zq (by decide))
      | intro _
      | with_reducible refine And.intro ?_ ?_)
    all_goals first | rfl | contradiction | (exact K_no (hK _ (by decide))) | (exact hK _ (by decide)) | omega | (unfold goodI wordF at *; omega) | skip
    show _ = μ 263 ((295 + w).toNat)
    rw [show (295 + w).toNat = 295 + w.toNat by omega]
  · 
    repeat' (first
      | with_reducible refine k_guestS h ?_
      | with_reducible refine s_refused ?_
      | with_reducible refine s_good ?_
      | with_reducible refine r_guestS (iShut_m h _) ?_
      | with_reducible refine s_no ?_
      | (intro zq; exact absurd zq (by decide))
      | intro _
      | with_reducible refine And.intro ?_ ?_)
    all_goals first | rfl | contradiction | (exact K_no (hK _ (by decide))) | (exact hK _ (by decide)) | omega | (unfold goodI wordF at *; omega) | skip
theorem c_25 {sc : Int → Int} {i : Int} {μ : xM} {K : xM → Prop} (h : iOpen μ ∨ iShut μ) (hK : ∀ a, a ≠ 4 → K (tr μ a)) : tl_25 sc i μ K := by
  unfold tl_25
  rcases h with h | h
  · have bN := h.2.1.N
    obtain ⟨_, _, n2, n3, _⟩ := h.2.2.2.1.1
    have q := b_stand n2.2.1 (by omega) n3.1 n3.2.1
    have h14 := h.1
    repeat' (first
      | with_reducible refine k_open h ?_
      | with_reducible refine s_granted ?_
      | with_reducible refine s_refused ?_
      | with_reducible refine s_good ?_
      | with_reducible refine s_no ?_
      | (intro zq; exact absurd zq (by decide))
      | (intro zq; exact absurd (h14.symm.trans zq) (by decide))
      | intro _
      | with_reducible refine And.intro ?_ ?_)
    all_goals first | rfl | contradiction | (exact K_no (hK _ (by decide))) | (exact hK _ (by decide)) | omega | (unfold goodI wordF at *; omega) | skip
    show _ = μ 265 5
    exact q.trans n3.2.2.symm
  · have h14 := h.1
    repeat' (first
      | with_reducible refine k_shut h ?_
      | with_reducible refine s_refused ?_
      | with_reducible refine s_good ?_
      | with_reducible refine s_no ?_
      | (intro zq; exact absurd zq (by decide))
      | (intro zq; exact absurd h14 zq)
      | intro _
      | with_reducible refine And.intro ?_ ?_)
    all_goals first | rfl | contradiction | (exact K_no (hK _ (by decide))) | (exact hK _ (by decide)) | omega | (unfold goodI wordF at *; omega) | skip
theorem c_24 {sc : Int → Int} {i : Int} {μ : xM} {K : xM → Prop} (h : iOpen μ ∨ iShut μ) (hK : ∀ a, a ≠ 4 → K (tr μ a)) : tl_24 sc i μ K := by
  obtain ⟨w, ew⟩ : ∃ w, w = sc (i + 1) := ⟨_, rfl⟩
  unfold tl_24
  rw [← ew]
  rcases h with h | h
  · have bT := h.2.1.T
    have e0 := h.2.2.1.1 0 (by omega)
    have n1 := h.2.2.2.1.1.1 w.toNat
    have hi : ∀ a j, wi (wi (wi μ 0 18 a) 260 0 0) 260 11 0 265 j = μ 265 j := fun a j => rfl
    rw [Nat.zero_add] at n1
    repeat' (first
      | with_reducible refine s_at (fun _ _ => ?_) (fun _ => ?_)
      | with_reducible refine s_granted ?_
      | with_reducible refine s_refused ?_
      | with_reducible refine s_good ?_
      | with_reducible refine r_table (iOpen_m h _) (m_263 μ _) (fun _ _ => ?_) (fun _ => ?_)
      | with_reducible refine s_no ?_
      | (intro zq; exact absurd zq (by decide))
      | intro _
      | with_reducible refine And.intro ?_ ?_)
    all_goals first | rfl | contradiction | (exact K_no (hK _ (by decide))) | (exact hK _ (by decide)) | omega | (unfold goodI wordF at *; omega) | skip
    all_goals (simp only [hi] at *)
    all_goals (have n1 := (n1 (by omega)).1; omega)
  · have e0 := (h.2.1 0 (by omega)).1
    repeat' (first
      | with_reducible refine s_refused ?_
      | with_reducible refine s_good ?_
      | with_reducible refine r_tableS (iShut_m h _) ?_
      | with_reducible refine s_no ?_
      | (intro zq; exact absurd zq (by decide))
      | intro _
      | with_reducible refine And.intro ?_ ?_)
    all_goals first | rfl | contradiction | (exact K_no (hK _ (by decide))) | (exact hK _ (by decide)) | omega | (unfold goodI wordF at *; omega) | skip
