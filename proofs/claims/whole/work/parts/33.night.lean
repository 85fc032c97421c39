/-! codes: three tables in one number -/
def cd (a b c : Int) : Int := a + 25 * b + 625 * c
def pk (a b c : Int) (t : Int) : Int := if t = 0 then a else if t = 1 then b else c
def k3 (x : Int) : Prop := 0 ≤ x ∧ x ≤ 24
theorem r_wordOf {a b c t : Int} {μ : xM} {Q : Int → xM → Prop} (ha : k3 a) (hb : k3 b) (hc : k3 c) (h : Q (pk a b c t) μ) : tX11_wordOf (cd a b c) t μ Q := by
  unfold k3 at *
  have e1 : (cd a b c).tdiv 625 = c := by rw [Int.tdiv_eq_ediv_of_nonneg (by unfold cd; omega)]; unfold cd; omega
  have e2 : ((cd a b c).tdiv 25).tmod 25 = b := by
    rw [Int.tdiv_eq_ediv_of_nonneg (by unfold cd; omega), Int.tmod_eq_emod_of_nonneg (by unfold cd; omega)]; unfold cd; omega
  have e3 : (cd a b c).tmod 25 = a := by rw [Int.tmod_eq_emod_of_nonneg (by unfold cd; omega)]; unfold cd; omega
  have e4 : (cd a b c).tdiv 25 = b + 25 * c := by rw [Int.tdiv_eq_ediv_of_nonneg (by unfold cd; omega)]; unfold cd; omega
  intro _ _ _
  rw [e1, e2, e3, e4]
  unfold pk at h
  refine ⟨fun q => ⟨fun q1 => ⟨⟨by omega, by omega⟩, ?_⟩, fun q1 => ⟨⟨by omega, by omega⟩, ⟨by omega, by omega⟩, ?_⟩⟩, fun q => ⟨⟨by omega, by omega⟩, ?_⟩⟩
  · rw [if_neg q, if_neg q1] at h; exact h
  · rw [if_neg q, if_pos q1] at h; exact h
  · rw [if_pos q] at h; exact h
def wt (a b c t w : Int) : Int := cd (if t = 0 then w else a) (if t = 1 then w else b) (if t = 0 ∨ t = 1 then c else w)
theorem r_withWord {a b c t w : Int} {μ : xM} {Q : Int → xM → Prop} (ha : k3 a) (hb : k3 b) (hc : k3 c) (hw : k3 w) (h : Q (wt a b c t w) μ) : tX11_withWord (cd a b c) t w μ Q := by
  intro _ _ _ _
  refine ⟨fun q => ⟨fun q1 => r_wordOf ha hb hc (fun _ _ => ?_), fun q1 => r_wordOf ha hb hc (fun _ _ => ?_)⟩, fun q => r_wordOf ha hb hc (fun _ _ => ?_)⟩
  · unfold pk
    rw [if_neg q, if_neg q1]
    have e : cd a b c + (w - c) * 625 = wt a b c t w := by
      unfold wt cd
      rw [if_neg q, if_neg q1, if_neg (by omega)]
      omega
    rw [e]
    refine ⟨?_, h⟩
    rw [← e]
    unfold k3 at *; unfold cd xIn; omega
  · unfold pk
    rw [if_neg q, if_pos q1]
    have e : cd a b c + (w - b) * 25 = wt a b c t w := by
      unfold wt cd
      rw [if_neg q, if_pos q1, if_pos (by omega)]
      omega
    rw [e]
    refine ⟨?_, h⟩
    rw [← e]
    unfold k3 at *; unfold cd xIn; omega
  · unfold pk
    rw [if_pos q]
    have e : cd a b c + (w - a) * 1 = wt a b c t w := by
      unfold wt cd
      rw [if_pos q, if_neg (by omega), if_pos (by omega)]
      omega
    rw [e]
    refine ⟨?_, h⟩
    rw [← e]
    unfold k3 at *; unfold cd xIn; omega
theorem wt_rng {a b c t w : Int} (ha : k3 a) (hb : k3 b) (hc : k3 c) (hw : k3 w) : 0 ≤ wt a b c t w ∧ wt a b c t w < 15625 := by
  unfold k3 wt cd at *
  refine ⟨?_, ?_⟩ <;> (repeat' split) <;> omega
theorem pk_k3 {a b c t : Int} (ha : k3 a) (hb : k3 b) (hc : k3 c) : k3 (pk a b c t) := by
  unfold pk
  split
  · exact ha
  · split
    · exact hb
    · exact hc
theorem r_wordAfter {R : Nat → Int} {a b c t v x : Int} {μ : xM} {Q : Int → xM → Prop} (hI : iOpen μ) (hR : μ 263 = R) (ha : k3 a) (hb : k3 b) (hc : k3 c) (hv : 0 ≤ v) (hv2 : v < 24)
    (h1 : byF R (pk a b c t).toNat v.toNat = x → Q (wt a b c t v) μ) (h0 : ¬ byF R (pk a b c t).toNat v.toNat = x → Q (-1) μ) : tX11_wordAfter (cd a b c) t v x μ Q := by
  subst hR
  have hp := pk_k3 (t := t) ha hb hc
  have e : μ 267 ((24 * pk a b c t + v).toNat) = byF (μ 263) (pk a b c t).toNat v.toNat := by
    rw [← (hI.2.2.2.2.2.1 (pk a b c t).toNat v.toNat (by unfold k3 at hp; omega) (by omega)).1]
    congr 1; unfold k3 at hp; omega
  intro _ _ _ _ _
  refine r_wordOf ha hb hc (fun _ _ => ?_)
  rw [e]
  refine ⟨⟨by unfold k3 at hp; omega, by unfold k3 at hp; omega⟩, fun z => h0 z, fun z => r_withWord ha hb hc ⟨hv, by omega⟩ (fun _ _ => h1 z)⟩
theorem iNight.kk {μ : xM} {o c m : Nat} (h : iNight μ o c m) (t : Nat) (ht : t < 3) : k3 (μ c (m + t)) := ⟨(h.1 t ht).2.1, (h.1 t ht).2.2.1⟩
theorem r_code {μ : xM} {Q : Int → xM → Prop} (hN : iNight μ 249 265 0) (h : Q (cd (μ 265 0) (μ 265 1) (μ 265 2)) μ) : tX11_code μ Q := by
  have a := hN.kk 0 (by omega)
  have b := hN.kk 1 (by omega)
  have c := hN.kk 2 (by omega)
  simp only [Nat.zero_add] at a b c
  intro _
  refine ⟨?_, h⟩
  unfold k3 at *; unfold xIn; omega
/-! memories filled -/
theorem fillM_zero (μ : xM) (k : Nat) (v : Int) : fillM μ k 0 v = μ := by
  funext a j
  simp [fillM]
theorem fillM_succ (μ : xM) (k n : Nat) (v : Int) : wi (fillM μ k n v) k n v = fillM μ k (n + 1) v := by
  funext a j
  simp only [wi, fillM]
  by_cases h : a = k
  · by_cases h2 : j = n
    · simp [h, h2]
    · by_cases h3 : j < n
      · simp [h, h2, h3, Nat.lt_succ_of_lt h3]
      · have : ¬ j < n + 1 := by omega
        simp [h, h2, h3, this]
  · simp [h]
def bgM (μ : xM) (o : Nat) (h : Int) : xM := fillM (wi (wi (wi μ o 0 h) o 1 0) o 2 0) (o + 1) 3 24
def rbM (μ : xM) (h : Int) : xM := wi (wi (wi (fillM μ 265 3 24) 265 3 h) 265 4 0) 265 5 0
theorem s_begin {μ : xM} {o : Nat} {h : Int} {Q : xM → Prop} (hq : Q (bgM μ o h)) : tX4_begin o h μ Q := by
  intro _ _
  exact wl fun _ => wl fun _ => wl fun _ => s_fill (by omega) fun _ => hq
theorem r_begin {μ : xM} {h : Int} {Q : xM → Prop} (hq : Q (rbM μ h)) : tX11_begin h μ Q := by
  intro _ _
  refine up1 (n := 3) (fun i ν => ν = fillM μ 265 i.toNat 24) (by omega) (fillM_zero μ 265 24).symm ?_
  rintro i ν K h0 h1 rfl _ hK
  refine ⟨⟨by omega, by omega⟩, fun c => ?_, fun c => ⟨⟨h0, by omega⟩, wl fun _ => hK _ (by omega) ?_⟩⟩
  · have e : i.toNat = 3 := by omega
    rw [e]
    exact wl fun _ => wl fun _ => wl fun _ => hq
  · rw [fillM_succ, show (i + 1).toNat = i.toNat + 1 by omega]
theorem cntW_24 (R : Nat → Int) (x : Int) : cntW R 24 x = 0 := by simp [cntW]
theorem iNight_begin {ν : xM} {o c m : Nat} (h1 : ∀ t : Nat, t < 3 → ν (o + 1) t = 24 ∧ ν c (m + t) = 24) (h2 : ν o 0 = ν c (m + 3)) (h3 : 0 ≤ ν o 0 ∧ ν o 0 ≤ 3) (h4 : ν o 1 = 0) (h5 : ν c (m + 4) = 0) (h6 : ν o 2 = 0) (h7 : ν c (m + 5) = 0) (h8 : 0 ≤ ν 263 4) : iNight ν o c m := by
  refine ⟨fun t ht => ?_, ⟨h2, h3⟩, ⟨by rw [h4, h5], by omega, by omega⟩, ⟨by omega, ?_, ?_⟩, ?_⟩
  · have := h1 t ht
    exact ⟨by rw [this.1, this.2], by omega, by omega, Or.inl this.2, fun _ => this.2⟩
  · rw [h6, h4]; decide
  · rw [h7, h6, h4]; decide
  · have a := (h1 0 (by omega)).2
    have b := (h1 1 (by omega)).2
    have c := (h1 2 (by omega)).2
    rw [Nat.add_zero] at a
    rw [a, b, c, h4]
    intro x _ _
    show cntW _ 24 x + cntW _ 24 x + cntW _ 24 x ≤ 0
    rw [cntW_24]; omega
/-! the night alone has changed -/
def nscr (k j : Nat) : Bool := ascr k j || k == 249 || k == 250 || k == 265 || k == 266 || (decide (253 ≤ k) && decide (k < 260)) || (k == 0 && j == 17) || (k == 260 && j == 19)
def nsame (μ ν : xM) : Prop := ∀ k j, nscr k j = false → ν k j = μ k j
theorem nsame.row {μ μ' : xM} (h : nsame μ μ') {k : Nat} (hk : (39 ≤ k ∧ k < 209) ∨ k = 36 ∨ k = 261 ∨ k = 263 ∨ (267 ≤ k ∧ k < 271)) : μ' k = μ k := by
  funext j
  refine h k j ?_
  have : k ≠ 0 ∧ ¬ k ≤ 34 ∧ k ≠ 35 ∧ k ≠ 37 ∧ k ≠ 38 ∧ ¬ (209 ≤ k ∧ k ≤ 248) ∧ k ≠ 251 ∧ k ≠ 252 ∧ k ≠ 260 ∧ k ≠ 262 ∧ k ≠ 264 ∧ ¬ 271 ≤ k := by omega
  obtain ⟨h1, h2, h3, h4, h5, h6, h7, h8, h9, h10, h11, h12⟩ := this
  simp only [nscr, ascr, cscr, rscr, Bool.or_eq_false_iff, Bool.and_eq_false_iff, beq_eq_false_iff_ne, decide_eq_false_iff_not]
  refine ⟨⟨⟨⟨⟨⟨⟨⟨⟨⟨⟨⟨⟨⟨⟨⟨⟨?_, ?_⟩, ?_⟩, ?_⟩, ?_⟩, ?_⟩, ?_⟩, ?_⟩, ⟨⟨⟨?_, ?_⟩, ?_⟩, ?_⟩⟩, ?_⟩, ?_⟩, ?_⟩, ?_⟩, ?_⟩, ?_⟩, ?_⟩, ?_⟩, ?_⟩ <;> omega
theorem nsame.rf (μ : xM) : nsame μ μ := fun _ _ _ => rfl
theorem nsame.tr {μ μ1 μ2 : xM} (h1 : nsame μ μ1) (h2 : nsame μ1 μ2) : nsame μ μ2 := fun k j hn => (h2 k j hn).trans (h1 k j hn)
theorem nsame.a {μ μ1 : xM} (h1 : asame μ μ1) : nsame μ μ1 := by
  intro k j hn
  unfold nscr at hn
  simp only [Bool.or_eq_false_iff] at hn
  exact h1 k j hn.1.1.1.1.1.1.1
theorem nsame.w {μ μ1 : xM} {k j : Nat} {v : Int} (h1 : nsame μ μ1) (h : nscr k j = true) : nsame μ (wi μ1 k j v) := by
  intro a b hn
  unfold wi
  split
  · rename_i e
    rw [e.1, e.2, h] at hn
    exact absurd hn (by decide)
  · exact h1 a b hn
theorem nsame.f {μ μ1 : xM} {k n : Nat} {v : Int} (h1 : nsame μ μ1) (h : ∀ j, j < n → nscr k j = true) : nsame μ (fillM μ1 k n v) := by
  intro a b hn
  unfold fillM
  split
  · rename_i e
    rw [e.1, h b e.2] at hn
    exact absurd hn (by decide)
  · exact h1 a b hn
theorem nsame.opn {μ ν : xM} (s : nsame μ ν) (hO : iOpen μ) (hn : iNights ν) : iOpen ν := by
  obtain ⟨a, b, c, d, e⟩ := hO
  refine ⟨(s 260 14 rfl).trans a, ?_, ?_, hn, iGrow_c (fun k _ _ => s.row (by omega)) (fun k _ _ => s.row (by omega)) (s.row (by omega)) e⟩
  · rw [s.row (k := 263) (by omega)]; exact b
  · unfold iHouse at *
    rw [s.row (k := 39) (by omega), s.row (k := 40) (by omega), s.row (k := 41) (by omega), s.row (k := 68) (by omega), s.row (k := 263) (by omega), s.row (k := 67) (by omega), s.row (k := 69) (by omega), s.row (k := 70) (by omega), s.row (k := 71) (by omega), s.row (k := 72) (by omega)]
    refine ⟨c.1, fun w hw h2 => ?_, c.2.2⟩
    rw [s.row (k := 43 + w) (by omega)]
    exact c.2.1 w hw h2
theorem Inv_n {μ ν : xM} {a : Int} (hi : Inv μ) (hO : iOpen μ) (s : nsame μ ν) (e1 : ν 35 1 = μ 35 1) (e9 : ν 260 9 = μ 260 9) (e18 : ν 0 18 = a) (e11 : ν 260 11 = a) (ha : a ≠ 4) (hb : iBase ν) (hc : iCache ν) (hn : iNights ν) : Inv ν := by
  refine ⟨?_, ⟨?_, ?_, fun z => absurd (e11.symm.trans z) ha⟩, hb, Or.inl ⟨s.opn hO hn, hc⟩⟩
  · have h := hi.1
    unfold iTape at *
    rw [s 35 0 rfl, s 260 2 rfl, s.row (k := 36) (by omega), s.row (k := 261) (by omega)]
    exact h
  · rw [e1, e9]; exact hi.2.1.1
  · rw [e18, e11]
theorem Inv.cache {μ : xM} (hi : Inv μ) (hO : iOpen μ) : iCache μ := by
  rcases hi.2.2.2 with q | q
  · exact q.2
  · exact absurd (hO.1.symm.trans q.1) (by decide)
/-- night -/
theorem c_19 {sc : Int → Int} {i : Int} {μ : xM} (hi : Inv μ) : tl_19 sc i μ Inv := by
  obtain ⟨w, ew⟩ : ∃ w, w = sc (i + 1) := ⟨_, rfl⟩
  unfold tl_19
  rw [← ew]
  have hK : ∀ a, a ≠ 4 → Inv (tr μ a) := fun a => Inv_tr hi
  rcases hi.os with h | h
  · have h14 := h.1
    have fin : 0 ≤ w → w ≤ 3 → Inv (rbM (wi (wi (wi (bgM μ 249 w) 0 18 0) 260 0 0) 260 11 0) w) := by
      intro w0 w1
      have s : nsame μ (rbM (wi (wi (wi (bgM μ 249 w) 0 18 0) 260 0 0) 260 11 0) w) := by
        refine nsame.w (nsame.w (nsame.w (nsame.f (nsame.w (nsame.w (nsame.w (nsame.f (nsame.w (nsame.w (nsame.w (nsame.rf μ) ?_) ?_) ?_) ?_) ?_) ?_) ?_) ?_) ?_) ?_) ?_
        all_goals first | rfl | (intro j hj; rfl)
      refine Inv_n (a := 0) hi h s rfl rfl rfl rfl (by decide) (iBase_c (fun k hk => ?_) rfl rfl hi.2.2.1) (iCache_c (fun k hk => ?_) (hi.cache h)) ⟨iNight_begin ?_ rfl ⟨w0, w1⟩ rfl rfl rfl rfl ?_, ?_⟩
      · funext j; simp [rbM, bgM, wi, fillM, show k ≠ 0 by omega, show k ≠ 260 by omega, show k ≠ 265 by omega, show k ≠ 249 by omega, show k ≠ 250 by omega]
      · funext j; simp [rbM, bgM, wi, fillM, show k ≠ 0 by omega, show k ≠ 260 by omega, show k ≠ 265 by omega, show k ≠ 249 by omega, show k ≠ 250 by omega]
      · intro t ht
        rcases (show t = 0 ∨ t = 1 ∨ t = 2 by omega) with rfl | rfl | rfl <;> exact ⟨rfl, rfl⟩
      · exact Int.le_trans (by decide) h.2.1.N.1
      · obtain ⟨_, n1, n2, n3, n4⟩ := h.2.2.2.1
        refine ⟨n1, n2, n3, fun i hi2 hi3 => ?_⟩
        rcases (show i = 0 ∨ i = 1 ∨ i = 2 by omega) with rfl | rfl | rfl <;> exact n4 _ hi2 hi3
    repeat' (first
      | with_reducible refine k_open h ?_
      | with_reducible refine s_begin ?_
      | with_reducible refine r_begin ?_
      | with_reducible refine s_allowed ?_
      | with_reducible refine s_denied ?_
      | with_reducible refine s_good ?_
      | with_reducible refine s_within (fun _ _ => ?_) (fun _ => ?_)
      | with_reducible refine s_isNot ?_
      | (intro zq; exact absurd zq (by decide))
      | (intro zq; exact absurd (h14.symm.trans zq) (by decide))
      | intro _
      | with_reducible refine And.intro ?_ ?_)
    all_goals first | rfl | contradiction | (exact K_no (hK _ (by decide))) | (exact hK _ (by decide)) | omega | exact fin (by omega) (by omega)
  · have h14 := h.1
    repeat' (first
      | with_reducible refine k_shut h ?_
      | with_reducible refine s_denied ?_
      | with_reducible refine s_good ?_
      | with_reducible refine s_isNot ?_
      | (intro zq; exact absurd zq (by decide))
      | (intro zq; exact absurd h14 zq)
      | intro _
      | with_reducible refine And.intro ?_ ?_)
    all_goals first | rfl | contradiction | (exact K_no (hK _ (by decide))) | (exact hK _ (by decide)) | omega | (unfold goodI wordF at *; omega) | skip
