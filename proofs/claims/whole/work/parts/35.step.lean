/-! a word that grows has one letter more -/
theorem scanF_ge {P : Nat → Prop} {f : Nat → Int} : ∀ m p : Nat, 0 ≤ scanF P f m p → ∃ q, p ≤ q ∧ q < p + m ∧ P q ∧ scanF P f m p = f q := by
  intro m
  induction m with
  | zero => intro p h; simp [scanF] at h
  | succ m ih =>
    intro p h
    by_cases c : P p
    · exact ⟨p, by omega, by omega, c, scanF_yes c⟩
    · rw [scanF_no c] at h ⊢
      obtain ⟨q, h1, h2, h3, h4⟩ := ih (p + 1) h
      exact ⟨q, by omega, by omega, h3, h4⟩
theorem cntW_grow {R : Nat → Int} (hR : okR R) {w v : Nat} {x : Int} (h : byF R w v = x) (hx : 0 ≤ x) (c : Int) : cntW R v c = cntW R w c + if x = c then 1 else 0 := by
  have g := byF_ge (by rw [h]; exact hx)
  have hv24 : v ≠ 24 := by have := g.1.1; have := hR.W; omega
  rcases g.2 with ⟨rfl, h1⟩ | ⟨h0, h1, h2⟩
  · rw [byF_yes (Or.inl rfl) g.1] at h
    simp only [wvF, if_true, h1] at h
    simp only [cntW, if_true, if_neg hv24, h1]
    show cntL R v 1 c = _
    simp only [cntL, Nat.add_zero]
    subst h
    rfl
  · rw [byF_yes (Or.inr h1) g.1] at h
    simp only [wvF, if_neg h0, if_pos h2] at h
    obtain ⟨p, _, hp, ⟨_, hwo⟩, hq⟩ := scanF_ge _ _ (by rw [h]; exact hx)
    rw [h] at hq
    have bw := hR.len h1.1
    simp only [cntW, if_neg hv24, if_neg h0]
    have lo : ∀ k : Nat, k ≤ p → (k : Int) ≤ R (7 + w) → cntL R v k c = cntL R w k c := by
      intro k
      induction k with
      | zero => intros; rfl
      | succ k ih =>
        intro a b
        simp only [cntL]
        rw [ih (by omega) (by omega)]
        have := hwo k (by omega)
        rw [if_pos (by omega)] at this
        rw [this]
    have hi : ∀ k : Nat, p ≤ k → (k : Int) ≤ R (7 + w) → cntL R v (k + 1) c = cntL R w k c + if x = c then 1 else 0 := by
      intro k
      induction k with
      | zero =>
        intro a b
        have : p = 0 := by omega
        subst this
        simp only [cntL]
        rw [hq]
      | succ k ih =>
        intro a b
        by_cases e : p = k + 1
        · subst e
          show cntL R v (k + 1) c + _ = _
          rw [lo (k + 1) (by omega) b, hq]
        · show cntL R v (k + 1) c + _ = (cntL R w k c + _) + _
          rw [ih (by omega) (by omega)]
          have := hwo k (by omega)
          rw [if_neg (by omega)] at this
          rw [show 31 + 6 * v + (k + 1) = 31 + 6 * v + (k + 1) from rfl, this]
          omega
    have e : (R (7 + v)).toNat = (R (7 + w)).toNat + 1 := by omega
    rw [e]
    exact hi _ (by omega) (by omega)
theorem cntG_le (R : Nat → Int) (n : Nat) (c : Int) : cntG R n c ≤ cntG R (n + 1) c := by
  simp only [cntG]
  split <;> omega
/-! tables as they may be, with n guests come -/
def nOK (R : Nat → Int) (f : Nat → Int) (n : Int) : Prop := (∀ t : Nat, t < 3 → 0 ≤ f t ∧ f t ≤ 24 ∧ (f t = 24 ∨ goodF R (f t).toNat) ∧ (R 0 ≤ t → f t = 24)) ∧ thereF R (f 0).toNat (f 1).toNat (f 2).toNat n.toNat
def setT (f : Nat → Int) (t : Nat) (v : Int) : Nat → Int := fun j => if j = t then v else f j
theorem nOK.up {R : Nat → Int} {f : Nat → Int} {n : Int} (h : nOK R f n) (hn : 0 ≤ n) : nOK R f (n + 1) := by
  refine ⟨h.1, fun x a b => ?_⟩
  rw [show (n + 1).toNat = n.toNat + 1 by omega]
  exact Int.le_trans (h.2 x a b) (cntG_le _ _ _)
theorem nOK.grow {R : Nat → Int} {f : Nat → Int} {n : Int} {t v : Nat} (hR : okR R) (h : nOK R f n) (hn : 0 ≤ n) (hn2 : n < R 4) (ht : (t : Int) < R 0) (hv : byF R (f t).toNat v = R (295 + n.toNat)) : nOK R (setT f t v) (n + 1) := by
  have bf := hR.fst (g := n.toNat) (by omega)
  have bT := hR.T
  have bW := hR.W
  have g := byF_ge (R := R) (w := (f t).toNat) (v := v) (by omega)
  have gv := g.1.1
  have cg := fun x => cntW_grow hR hv bf.1 x
  refine ⟨fun j hj => ?_, fun x a b => ?_⟩
  · unfold setT
    by_cases e : j = t
    · rw [if_pos e]
      refine ⟨by omega, by omega, Or.inr ?_, fun z => by omega⟩
      rw [Int.toNat_natCast]; exact g.1
    · rw [if_neg e]; exact h.1 j hj
  · have q := h.2 x a b
    have cg := cg x
    rw [show (n + 1).toNat = n.toNat + 1 by omega]
    simp only [cntG]
    unfold setT
    rcases (show t = 0 ∨ t = 1 ∨ t = 2 by omega) with rfl | rfl | rfl
    · simp only [if_true, Int.toNat_natCast, show (1 : Nat) ≠ 0 by decide, show (2 : Nat) ≠ 0 by decide, if_false]
      omega
    · simp only [if_true, Int.toNat_natCast, show (0 : Nat) ≠ 1 by decide, show (2 : Nat) ≠ 1 by decide, if_false]
      omega
    · simp only [if_true, Int.toNat_natCast, show (0 : Nat) ≠ 2 by decide, show (1 : Nat) ≠ 2 by decide, if_false]
      omega
theorem iNight_of {ν : xM} {o c m : Nat} (h1 : ∀ t : Nat, t < 3 → ν (o + 1) t = ν c (m + t)) (h2 : nOK (ν 263) (ν (o + 1)) (ν o 1)) (h3 : ν o 0 = ν c (m + 3)) (h4 : 0 ≤ ν o 0 ∧ ν o 0 ≤ 3) (h5 : ν o 1 = ν c (m + 4)) (h6 : 0 ≤ ν o 1 ∧ ν o 1 ≤ ν 263 4) (h7 : 0 ≤ ν o 2 ∧ ν o 2 < pw (ν o 1)) (h8 : ν c (m + 5) = pw (ν o 1) - 1 - ν o 2) : iNight ν o c m := by
  refine ⟨fun t ht => ⟨h1 t ht, ?_⟩, ⟨h3, h4⟩, ⟨h5, h6⟩, ⟨h7.1, h7.2, h8⟩, ?_⟩
  · rw [← h1 t ht]; exact h2.1 t ht
  · have a : ν (o + 1) 0 = ν c m := h1 0 (by omega); have b := h1 1 (by omega); have d := h1 2 (by omega)
    rw [← a, ← b, ← d]; exact h2.2
theorem iNight.ok {ν : xM} {o c m : Nat} (h : iNight ν o c m) : nOK (ν 263) (ν (o + 1)) (ν o 1) := by
  refine ⟨fun t ht => ?_, ?_⟩
  · rw [(h.1 t ht).1]; exact (h.1 t ht).2
  · have a : ν (o + 1) 0 = ν c m := (h.1 0 (by omega)).1; have b := (h.1 1 (by omega)).1; have d := (h.1 2 (by omega)).1
    rw [a, b, d]; exact h.2.2.2.2
theorem nights_keep {μ ν : xM} (hn : iNights μ) (h1 : iNight ν 249 265 0) (h2 : ν 0 17 = μ 0 17) (h3 : ν 260 19 = μ 260 19) (h4 : ∀ k, 253 ≤ k → k < 260 → ν k = μ k) (h5 : ν 266 = μ 266) (h6 : ν 263 = μ 263) : iNights ν := by
  refine ⟨h1, ?_⟩
  rw [h2, h3]
  exact ⟨hn.2.1, hn.2.2.1, hn.2.2.2.1, fun i a b => iNight_c (h4 _ (by omega) (by omega)) (h4 _ (by omega) (by omega)) h5 h6 (hn.2.2.2.2 i a b)⟩
/-- stand -/
theorem c_22 {sc : Int → Int} {i : Int} {μ : xM} (hi : Inv μ) : tl_22 sc i μ Inv := by
  unfold tl_22
  have hK : ∀ a, a ≠ 4 → Inv (tr μ a) := fun a => Inv_tr hi
  rcases hi.os with h | h
  · have h14 := h.1
    have hN := h.2.2.2.1
    have n2 := hN.1.2.2.1
    have n3 := hN.1.2.2.2.1
    have e4 := h.2.2.1.1 4 (by omega)
    have bN := h.2.1.N
    have q := pw_succ n2.2.1
    have sq : xOr (μ 265 5) (xShl 1 (μ 265 4)) = μ 265 5 + pw (μ 249 1) := by
      have n21 := n2.1
      rw [Nat.zero_add] at n21
      rw [← n21]
      have n33 := n3.2.2
      rw [Nat.zero_add] at n33
      exact b_seat n2.2.1 (by omega) (by omega) (by omega)
    have e0 : ∀ a, wi (wi (wi (wi μ 249 1 a) 0 18 0) 260 0 0) 260 11 0 265 = μ 265 := fun a => rfl
    have fin : μ 249 1 < μ 263 4 → Inv (wi (wi (wi (wi (wi (wi μ 249 1 (μ 249 1 + 1)) 0 18 0) 260 0 0) 260 11 0) 265 5 (xOr (μ 265 5) (xShl 1 (μ 265 4)))) 265 4 (μ 265 4 + 1)) := by
      intro lt
      have s : nsame μ (wi (wi (wi (wi (wi (wi μ 249 1 (μ 249 1 + 1)) 0 18 0) 260 0 0) 260 11 0) 265 5 (xOr (μ 265 5) (xShl 1 (μ 265 4)))) 265 4 (μ 265 4 + 1)) :=
        nsame.w (nsame.w (nsame.w (nsame.w (nsame.w (nsame.w (nsame.rf μ) rfl) rfl) rfl) rfl) rfl) rfl
      refine Inv_n (a := 0) hi h s rfl rfl rfl rfl (by decide) (iBase_c (fun k hk => ?_) rfl rfl hi.2.2.1) (iCache_c (fun k hk => ?_) (hi.cache h)) (nights_keep hN (iNight_of ?_ ?_ ?_ ?_ ?_ ?_ ?_ ?_) rfl rfl ?_ rfl rfl)
      · funext j; simp [wi, show k ≠ 0 by omega, show k ≠ 260 by omega, show k ≠ 265 by omega, show k ≠ 249 by omega]
      · funext j; simp [wi, show k ≠ 0 by omega, show k ≠ 260 by omega, show k ≠ 265 by omega, show k ≠ 249 by omega]
      · intro t ht
        rcases (show t = 0 ∨ t = 1 ∨ t = 2 by omega) with rfl | rfl | rfl
        · exact (hN.1.1 0 (by omega)).1
        · exact (hN.1.1 1 (by omega)).1
        · exact (hN.1.1 2 (by omega)).1
      · exact hN.1.ok.up n2.2.1
      · exact hN.1.2.1.1
      · exact hN.1.2.1.2
      · show μ 249 1 + 1 = μ 265 4 + 1
        rw [n2.1]
      · show 0 ≤ μ 249 1 + 1 ∧ μ 249 1 + 1 ≤ μ 263 4
        omega
      · show 0 ≤ μ 249 2 ∧ μ 249 2 < pw (μ 249 1 + 1)
        omega
      · show xOr (μ 265 5) (xShl 1 (μ 265 4)) = pw (μ 249 1 + 1) - 1 - μ 249 2
        rw [sq]
        have n33 := n3.2.2
        rw [Nat.zero_add] at n33
        omega
      · intro k _ _
        funext j; simp [wi, show k ≠ 0 by omega, show k ≠ 260 by omega, show k ≠ 265 by omega, show k ≠ 249 by omega]
    have hl : ∀ Q : xM → Prop, μ 249 1 < μ 263 4 → Q (wi μ 249 1 (μ 249 1 + 1)) → tX4_leaveStanding 249 μ Q := fun Q lt hq _ => ⟨⟨by omega, by omega⟩, wl fun _ => hq⟩
    have n21 := n2.1
    rw [Nat.zero_add] at n21
    repeat' (first
      | with_reducible refine k_open h ?_
      | with_reducible refine hl _ (by omega) ?_
      | with_reducible refine s_allowed ?_
      | with_reducible refine s_denied ?_
      | with_reducible refine s_good ?_
      | with_reducible refine s_isNot ?_
      | with_reducible refine wl (fun _ => ?_)
      | (intro zq; exact absurd zq (by decide))
      | (intro zq; exact absurd (h14.symm.trans zq) (by decide))
      | intro _
      | with_reducible refine And.intro ?_ ?_)
    all_goals first | rfl | contradiction | (exact K_no (hK _ (by decide))) | (exact hK _ (by decide)) | omega | exact fin (by omega) | skip
    all_goals (simp [wi] at *)
    all_goals first | omega | (unfold xIn; omega)
  · have h14 := h.1
    repeat' (first
      | with_reducible refine k_shut h ?_
      | with_reducible refine s_denied ?_
      | with_reducible refine s_good ?_
      | with_reducible refine s_isNot ?_
      | (intro zq; exact absurd zq (by decide))
      | (intro zq; exact absurd h14 zq)
      | intro _
      | with_reducible refine And.intro ?_ ?_)
    all_goals first | rfl | contradiction | (exact K_no (hK _ (by decide))) | (exact hK _ (by decide)) | omega | (unfold goodI wordF at *; omega) | skip
