/-! acts: rename, bar -/
theorem scanF_cg {P P' : Nat → Prop} {f f' : Nat → Int} : ∀ m p : Nat, (∀ q, p ≤ q → q < p + m → (P q ↔ P' q) ∧ f q = f' q) → scanF P f m p = scanF P' f' m p := by
  intro m
  induction m with
  | zero => intros; rfl
  | succ m ih =>
    intro p h
    have q := h p (by omega) (by omega)
    by_cases c : P p
    · rw [scanF_yes c, scanF_yes (q.1.1 c), q.2]
    · rw [scanF_no c, scanF_no (fun z => c (q.1.2 z))]
      exact ih (p + 1) (fun r a b => h r (by omega) (by omega))
theorem wvF_c {R S : Nat → Int} (hR : okR R) (h : ∀ j, j < 175 → S j = R j) {w v : Nat} (hw : w = 24 ∨ (w : Int) < R 3) (hv : (v : Int) < R 3) : wvF S w v = wvF R w v := by
  have bW := hR.W
  have bv := hR.len hv
  unfold wvF
  rw [h (7 + v) (by omega), h (31 + 6 * v) (by omega)]
  by_cases e : w = 24
  · simp [e]
  · have hw := hw.resolve_left e
    rw [if_neg e, if_neg e, h (7 + w) (by omega)]
    split
    · rename_i hl
      refine scanF_cg _ _ (fun p _ hp => ⟨?_, by rw [h (31 + 6 * v + p) (by omega)]⟩)
      unfold mayF woF
      rw [h 2 (by omega), h (7 + w) (by omega)]
      refine and_congr Iff.rfl (forall_congr' fun k => imp_congr_right fun hk => ?_)
      have q1 : (if k < p then k else k + 1) < 6 := by split <;> omega
      rw [h (31 + 6 * v + (if k < p then k else k + 1)) (by omega), h (31 + 6 * w + k) (by omega)]
    · rfl
theorem upL_mem {R : Nat → Int} {w n v : Nat} (h : v ∈ upL R w n) : v < n ∧ 0 ≤ byF R w v := by simpa [upL] using h
theorem cGrow_of {μ : xM} (h : iOpen μ) : cGrow μ (μ 263) := by
  have hR := h.2.1
  obtain ⟨c1, c2, c3, c4, c5, c6, c7, c8, c9⟩ := h.2.2.2.2
  have u0 : ∀ w, w < 25 → upL (μ 263) w (upTo 25 0 w) = upsF (μ 263) w := fun w hw => by unfold upTo; rw [if_pos hw]; rfl
  have d0 : ∀ v, dnL (μ 263) v (dnTo 25 0 v) = downsF (μ 263) v := fun v => by unfold dnTo; rw [if_neg (by omega)]; rfl
  refine ⟨c1, ⟨fun w v a b _ => (c2 w v a b).2, fun w hw => ?_, fun v hv => ?_⟩, fun w hw => ?_, fun w hw => ?_, fun w hw => ?_⟩
  · rw [u0 w hw]
    have := c3 w hw
    exact ⟨this.1, fun i hi => (this.2 i hi).1, fun i hi => (this.2 i hi).2⟩
  · rw [d0 v]
    have := c4 v hv
    exact ⟨this.1, fun i hi => this.2 i hi⟩
  · rw [(c5 w hw).1, c7 w hw]
    exact foldl_c _ _ (fun x v hv => by show max x (μ 268 v + 1) = max x (μ 205 v + 1); rw [(c5 v (ups_ln hR hv).1).1])
  · rw [c6 w hw]
    have := c8 w hw
    refine ⟨?_, this.2⟩
    rw [this.1]
    congr 1
    exact foldl_c _ _ (fun x v hv => by show xOr x (xShl 1 (μ 269 v)) = xOr x (xShl 1 (μ 206 v)); rw [c6 v (Or.inl (ups_ln hR hv).1)])
  · rw [(c5 w hw).2, c9 w hw]
    exact mnL_c _ (fun v hv v24 => ((c5 v (downs_ln hv v24).1).2).symm)
theorem cGrow_c {μ ν : xM} {R S : Nat → Int} (hR : okR R) (hs : ∀ j, j < 223 → S j = R j) (hk : ∀ k, 73 ≤ k → k < 208 → ν k = μ k) (h : cGrow μ R) : cGrow ν S := by
  obtain ⟨c1, ⟨l1, l2, l3⟩, c3, c4, c5⟩ := h
  have bW := hR.W
  have e3 := hs 3 (by omega)
  have ub : ∀ w n, w < 25 → n ≤ 24 → upL S w n = upL R w n := fun w n hw hn => List.filter_congr (fun v hv => by rw [byF_c hR hs (by omega) (by have := List.mem_range.1 hv; omega)])
  have db : ∀ v n, v < 24 → n ≤ 25 → dnL S v n = dnL R v n := fun v n hv hn => List.filter_congr (fun w hw => by rw [byF_c hR hs (by have := List.mem_range.1 hw; omega) hv])
  have ub2 : ∀ w, w < 25 → upsF S w = upsF R w := fun w hw => ub w 24 hw (by omega)
  have db2 : ∀ v, v < 24 → downsF S v = downsF R v := fun v hv => db v 25 hv (by omega)
  refine ⟨fun w v a b c d => ?_, ⟨fun w v a b c => ?_, fun w hw => ?_, fun v hv => ?_⟩, fun w hw => ?_, fun w hw => ?_, fun w hw => ?_⟩
  · rw [e3] at c d
    rw [hk (75 + w) (by omega) (by omega), wvF_c hR (fun j hj => hs j (by omega)) c d]
    exact c1 w v a b c d
  · rw [hk (101 + w) (by omega) (by omega), byF_c hR hs (by omega) b]
    exact l1 w v a b c
  · have le : upTo 25 0 w ≤ 24 := by unfold upTo; simp [hw]
    have q := l2 w hw
    rw [ub w _ hw le, hk 178 (by omega) (by omega), hk (127 + w) (by omega) (by omega), hk (153 + w) (by omega) (by omega)]
    refine ⟨q.1, q.2.1, fun i hi => ?_⟩
    rw [q.2.2 i hi, byF_c hR hs (by omega)]
    have m := (upL_mem (List.getElem_mem hi)).1
    omega
  · have le : dnTo 25 0 v ≤ 25 := by unfold dnTo; split <;> omega
    rw [db v _ hv le, hk 204 (by omega) (by omega), hk (180 + v) (by omega) (by omega)]
    exact l3 v hv
  · rw [e3] at hw
    rw [ub2 w (by omega), hk 205 (by omega) (by omega)]; exact c3 w hw
  · rw [e3] at hw
    rw [ub2 w (by omega), hk 206 (by omega) (by omega)]; exact c4 w hw
  · rw [e3] at hw
    rw [db2 w (by omega), hk 207 (by omega) (by omega), hs (7 + w) (by omega)]; exact c5 w hw
/-! what is kept is forgotten -/
def rnw (μ ν : xM) : Prop := (∀ k, k ≠ 0 → k ≠ 211 → k ≠ 216 → k ≠ 221 → ¬ (231 ≤ k ∧ k < 235) → ν k = μ k) ∧ (∀ j, j ≠ 17 → ν 0 j = μ 0 j) ∧ ν 0 17 = 0 ∧ ν 211 0 = 0 ∧ ν 216 0 = 0 ∧ ν 221 0 = 0 ∧ (∀ j : Nat, j < 26 → ν 231 j = -1) ∧ (∀ j : Nat, j < 2925 → ν 233 j = 0) ∧ (∀ j : Nat, j < 11700 → ν 234 j = 0)
theorem s_renew {μ : xM} {Q : xM → Prop} (h : iBase μ) (hq : ∀ ν, rnw μ ν → Q ν) : tX10_renew μ Q := by
  obtain ⟨h1, h2, _⟩ := h
  intro _
  refine wl fun _ => wl fun _ => wl fun _ => wl fun _ => s_fill (by omega) (fun _ => ?_)
  obtain ⟨B, hB⟩ : ∃ B, B = fillM (wi (wi (wi (wi μ 0 17 0) 211 0 0) 216 0 0) 221 0 0) 231 26 (-1) := ⟨_, rfl⟩
  rw [← hB]
  have bk : ∀ k, k ≠ 0 → k ≠ 211 → k ≠ 216 → k ≠ 221 → k ≠ 231 → B k = μ k := by
    intro k a b c d e
    rw [hB]; funext j; simp [fillM, wi, a, b, c, d, e]
  have b0 : ∀ j, j ≠ 17 → B 0 j = μ 0 j := by intro j hj; rw [hB]; simp [fillM, wi, hj]
  have b1 : B 0 17 = 0 ∧ B 211 0 = 0 ∧ B 216 0 = 0 ∧ B 221 0 = 0 := by rw [hB]; exact ⟨rfl, rfl, rfl, rfl⟩
  have b2 : ∀ j : Nat, j < 26 → B 231 j = -1 := by intro j hj; rw [hB]; simp [fillM, hj]
  have c4 : B 232 = μ 232 := bk 232 (by omega) (by omega) (by omega) (by omega) (by omega)
  have c3 : B 233 = μ 233 := bk 233 (by omega) (by omega) (by omega) (by omega) (by omega)
  have c5 : B 234 = μ 234 := bk 234 (by omega) (by omega) (by omega) (by omega) (by omega)
  have fin : ∀ ν, (∀ k, k ≠ 232 → k ≠ 233 → k ≠ 234 → ν k = B k) → (∀ j : Nat, j < 2925 → ν 233 j = 0) → (∀ j : Nat, j < 11700 → ν 234 j = 0) → rnw μ ν := by
    intro ν f g1 g2
    refine ⟨fun k a b c d e => (f k (by omega) (by omega) (by omega)).trans (bk k a b c d (by omega)), fun j hj => ?_, ?_, ?_, ?_, ?_, fun j hj => ?_, g1, g2⟩
    · rw [f 0 (by omega) (by omega) (by omega)]; exact b0 j hj
    · rw [f 0 (by omega) (by omega) (by omega)]; exact b1.1
    · rw [f 211 (by omega) (by omega) (by omega)]; exact b1.2.1
    · rw [f 216 (by omega) (by omega) (by omega)]; exact b1.2.2.1
    · rw [f 221 (by omega) (by omega) (by omega)]; exact b1.2.2.2
    · rw [f 231 (by omega) (by omega) (by omega)]; exact b2 j hj
  intro _
  refine ⟨fun u => ⟨fun u2 _ => hq _ (fin _ (fun _ _ _ _ => rfl) ?_ ?_), fun u2 => s_fill (by omega) (fun _ => wl fun _ _ => hq _ (fin _ (fun k a b c => ?_) ?_ ?_))⟩, fun u => s_fill (by omega) (fun _ => wl fun _ => ⟨fun u2 _ => hq _ (fin _ (fun k a b c => ?_) ?_ ?_), fun u2 => s_fill (by omega) (fun _ => wl fun _ _ => hq _ (fin _ (fun k a b c => ?_) ?_ ?_))⟩)⟩
  · rw [c3]; exact h1 (by rw [← c4]; exact u)
  · rw [c5]; exact h2 (by rw [← c4]; exact u2)
  · funext j; simp [wi, fillM, a, b, c]
  · intro j hj
    show wi (fillM B 234 11700 0) 232 5 0 233 j = 0
    rw [wi_cell (by omega)]
    show B 233 j = 0
    rw [c3]; exact h1 (by rw [← c4]; exact u) j hj
  · intro j hj; simp [wi, fillM, hj]
  · funext j; simp [wi, fillM, a, b, c]
  · intro j hj; simp [wi, fillM, hj]
  · intro j hj
    show B 234 j = 0
    rw [c5]
    refine h2 ?_ j hj
    have : wi (fillM B 233 2925 0) 232 4 0 232 5 = 0 := u2
    rw [← c4]; exact this
  · funext j; simp [wi, fillM, a, b, c]
  · intro j hj; simp [wi, fillM, hj]
  · intro j hj; simp [wi, fillM, hj]
theorem slotN_lt0 : ∀ c : Fin 25, ∀ b : Fin 25, b.val ≤ c.val → c.val * (c.val + 1) * (c.val + 2) / 6 + b.val * (b.val + 1) / 2 + b.val < 2925 := by decide +kernel
theorem slotN_lt {a b c : Nat} (h1 : a ≤ b) (h2 : b ≤ c) (h3 : c < 25) : slotN a b c < 2925 := by
  have := slotN_lt0 ⟨c, h3⟩ ⟨b, by omega⟩ h2
  unfold slotN
  simp only at this
  omega
theorem nib_zero (g : Nat) : nib 0 g = 0 := by
  unfold nib xUshr xAnd
  have : (Int32.ofInt 0).toUInt32 = 0 := rfl
  rw [this, UInt32.zero_shiftRight]
  rfl
theorem rnw_cache {μ ν : xM} (h : rnw μ ν) : iCache ν := by
  obtain ⟨_, _, _, a, b, c, d, e, f⟩ := h
  refine ⟨fun z => absurd a z, fun z => absurd b z, fun z => absurd c z, fun j hj z => ?_, fun x y z h1 h2 h3 _ g _ => ?_, fun x y z h1 h2 h3 _ k hk => ?_⟩
  · rw [d j hj] at z; omega
  · left
    rw [e _ (slotN_lt h1 h2 h3)]; exact nib_zero g
  · left
    exact f _ (by have := slotN_lt h1 h2 h3; omega)
theorem rnw_base {μ ν : xM} (h : rnw μ ν) (hb : iBase μ) : iBase ν := by
  refine ⟨fun _ => h.2.2.2.2.2.2.2.1, fun _ => h.2.2.2.2.2.2.2.2, ?_⟩
  rw [h.1 236 (by omega) (by omega) (by omega) (by omega) (by omega), h.1 30 (by omega) (by omega) (by omega) (by omega) (by omega)]; exact hb.2.2
/-- after an act: the class has R, a night begun, all forgotten; then the reference -/
theorem Inv_act {μ ν ω : xM} {R : Nat → Int} {h : Int} (hi : Inv μ) (hO : iOpen μ) (hR : okR R) (k0 : 0 ≤ h) (k1 : h ≤ 3)
    (c1 : iHo ν R) (c2 : cGrow ν R) (c3 : ν 249 0 = h ∧ ν 249 1 = 0 ∧ ν 249 2 = 0 ∧ ∀ t : Nat, t < 3 → ν 250 t = 24) (c4 : iCache ν) (c5 : iBase ν) (c6 : ν 0 17 = 0) (c7 : ν 35 = μ 35) (c8 : ν 36 = μ 36) (c9 : ν 261 = μ 261) (c10 : ν 260 = μ 260) (c11 : ν 0 18 = 0)
    (r1 : ∀ k, k < 260 ∨ k = 261 → ω k = ν k) (r2 : ω 263 = R) (r3 : rGrow ω R) (r4 : ω 265 3 = h ∧ ω 265 4 = 0 ∧ ω 265 5 = 0 ∧ ∀ t : Nat, t < 3 → ω 265 t = 24) (r5 : ω 260 19 = 0) (r6 : ω 260 11 = 0) (r7 : ∀ j, j ≠ 0 → j ≠ 11 → j ≠ 19 → ω 260 j = μ 260 j) (r8 : iCache ν → iCache ω) : Inv ω := by
  have hR2 : okR (ω 263) := by rw [r2]; exact hR
  have g : iGrow ω := by
    refine iGrow_of hR2 ?_ (by rw [r2]; exact r3)
    rw [r2]
    exact cGrow_c hR (fun _ _ => rfl) (fun k _ _ => r1 k (by omega)) c2
  have hh : iHo ω R := iHo_c (fun k _ _ => r1 k (by omega)) c1
  refine ⟨?_, ⟨?_, ?_, fun z => ?_⟩, iBase_c (fun k hk => r1 k (by omega)) (by rw [r1 236 (by omega)]) (by rw [r1 236 (by omega)]) c5, Or.inl ⟨⟨?_, hR2, ?_, ?_, g⟩, r8 c4⟩⟩
  · have t := hi.1
    unfold iTape at *
    rw [r1 35 (by omega), c7, r7 2 (by omega) (by omega) (by omega), r1 36 (by omega), c8, r1 261 (by omega), c9]; exact t
  · rw [r1 35 (by omega), c7, r7 9 (by omega) (by omega) (by omega)]; exact hi.2.1.1
  · rw [r1 0 (by omega), c11, r6]
  · rw [r6] at z; exact absurd z (by decide)
  · rw [r7 14 (by omega) (by omega) (by omega)]; exact hO.1
  · unfold iHouse
    rw [r2]; exact hh.2
  · refine ⟨iNight_begin (fun t ht => ?_) ?_ ?_ ?_ ?_ ?_ ?_ ?_, ?_⟩
    · rw [r1 250 (by omega), Nat.zero_add]; exact ⟨c3.2.2.2 t ht, r4.2.2.2 t ht⟩
    · rw [r1 249 (by omega), c3.1]; exact r4.1.symm
    · rw [r1 249 (by omega), c3.1]; exact ⟨k0, k1⟩
    · rw [r1 249 (by omega)]; exact c3.2.1
    · exact r4.2.1
    · rw [r1 249 (by omega)]; exact c3.2.2.1
    · exact r4.2.2.1
    · have := hR2.N; omega
    · rw [r1 0 (by omega), c6, r5]
      exact ⟨rfl, by decide, by decide, fun i _ z => by omega⟩
/-- what the reference does in the end of an act -/
theorem r_did {ν : xM} {R : Nat → Int} {Q : Int → xM → Prop} (e : ν 263 = R) (hR : okR R)
    (hq : ∀ ω, (∀ k, k < 260 ∨ k = 261 → ω k = ν k) → ω 263 = R → rGrow ω R → (ω 265 3 = ν 265 3 ∧ ω 265 4 = 0 ∧ ω 265 5 = 0 ∧ ∀ t : Nat, t < 3 → ω 265 t = 24) → ω 260 19 = 0 → (∀ j, j ≠ 19 → ω 260 j = ν 260 j) → Q 1 ω) : tX11_did ν Q := by
  intro _
  refine r_layGrows e hR (fun D d1 d2 _ => r_begin (fun _ => wl fun _ => ?_))
  have dk : ∀ k, k ≠ 260 → k ≠ 265 → wi (rbM D (D 265 3)) 260 19 0 k = D k := by
    intro k a b
    funext j; simp [rbM, wi, fillM, a, b]
  refine hq _ (fun k hk => ?_) ?_ ?_ ⟨?_, rfl, rfl, fun t ht => ?_⟩ rfl (fun j hj => ?_)
  · rw [dk k (by omega) (by omega)]; exact d1 k (by unfold in267; omega)
  · rw [dk 263 (by omega) (by omega), d1 263 (by unfold in267; omega)]; exact e
  · unfold rGrow at *
    rw [dk 267 (by omega) (by omega), dk 268 (by omega) (by omega), dk 269 (by omega) (by omega), dk 270 (by omega) (by omega)]; exact d2
  · show D 265 3 = ν 265 3
    rw [d1 265 (by unfold in267; omega)]
  · rcases (show t = 0 ∨ t = 1 ∨ t = 2 by omega) with rfl | rfl | rfl <;> rfl
  · rw [show wi (rbM D (D 265 3)) 260 19 0 260 j = D 260 j by simp [rbM, wi, fillM, hj], d1 260 (by unfold in267; omega)]

/-- rename -/
theorem c_39 {sc : Int → Int} {i : Int} {μ : xM} (hi : Inv μ) : tl_39 sc i μ Inv := by
  obtain ⟨g, eg⟩ : ∃ w, w = sc (i + 1) := ⟨_, rfl⟩
  obtain ⟨x, ex⟩ : ∃ w, w = sc (i + 2) := ⟨_, rfl⟩
  unfold tl_39
  rw [← eg, ← ex]
  have hK : ∀ a, a ≠ 4 → Inv (tr μ a) := fun a => Inv_tr hi
  rcases hi.os with h | h
  · have bN := h.2.1.N
    have hN := h.2.2.2.1.1
    by_cases hg : 0 ≤ g ∧ g < μ 263 4
    · by_cases hx : 0 ≤ x ∧ x < 26
      · by_cases hs : μ 263 (295 + g.toNat) = x
        · intro _ _ _
          refine k_guest h (fun _ _ _ _ => ⟨fun _ => ⟨fun z => by omega, fun _ => ⟨fun _ => k_first h (fun _ _ _ _ => ⟨fun z => absurd hs z, fun _ => s_denied (fun _ _ _ _ => ?_)⟩) (fun z => absurd hg z), fun z => by omega⟩⟩, fun z => absurd z (by decide)⟩) (fun z => absurd hg z)
          intro _ _ _
          refine s_good (fun _ => r_guest (iOpen_m h _) (m_263 μ _) (fun _ _ _ _ => ⟨fun _ => s_within (fun _ _ _ _ => ⟨fun _ => ⟨⟨by omega, by omega⟩, fun z => absurd ?_ z, fun _ => s_isNot (fun _ _ _ _ => ⟨rfl, K_no (hK 5 (by decide))⟩)⟩, fun z => absurd z (by decide)⟩) (fun z => absurd ⟨hx.1, by omega⟩ z), fun z => absurd z (by decide)⟩) (fun z => absurd hg z))
          show μ 263 ((295 + g).toNat) = x
          rw [show (295 + g).toNat = 295 + g.toNat by omega]; exact hs
        · obtain ⟨R, eR⟩ : ∃ R : Nat → Int, R = fun j => if j = 295 + g.toNat then x else μ 263 j := ⟨_, rfl⟩
          have Rj : ∀ j, j ≠ 295 + g.toNat → R j = μ 263 j := fun j hj => by rw [eR]; exact if_neg hj
          have Rg : R (295 + g.toNat) = x := by rw [eR]; exact if_pos rfl
          have hR : okR R := by
            have o := h.2.1
            refine ⟨?_, ?_, ?_, ?_, ?_, ?_, ?_, fun w hw => ?_, fun g2 hg2 => ?_, fun j hj => ?_, fun j hj => ?_⟩
            · rw [Rj 0 (by omega)]; exact o.T
            · rw [Rj 1 (by omega)]; exact o.C
            · rw [Rj 2 (by omega)]; exact o.G
            · rw [Rj 3 (by omega)]; exact o.W
            · rw [Rj 4 (by omega)]; exact o.N
            · rw [Rj 5 (by omega)]; exact o.K
            · rw [Rj 6 (by omega)]; exact o.S
            · rw [Rj 3 (by omega)] at hw
              have bW := o.W
              have bl := o.len hw
              rw [Rj (7 + w) (by omega), Rj (175 + w) (by omega), Rj (199 + w) (by omega)]
              refine ⟨o.len hw, o.val hw, o.bar hw, fun j hj => ?_⟩
              rw [Rj (31 + 6 * w + j) (by omega)]; exact o.let hw hj
            · rw [Rj 4 (by omega)] at hg2
              by_cases e : g2 = g.toNat
              · rw [e, Rg]; omega
              · rw [Rj (295 + g2) (by omega)]; exact o.fst hg2
            · have bK := o.K
              rw [Rj 5 (by omega)] at hj
              rw [Rj (303 + j) (by omega), Rj (309 + j) (by omega)]; exact o.lik hj
            · have bS := o.S
              rw [Rj 6 (by omega)] at hj
              rw [Rj (315 + j) (by omega), Rj 3 (by omega)]; exact o.see hj
          have bW := h.2.1.W
          have bK := h.2.1.K
          have bS := h.2.1.S
          intro _ _ _
          refine k_guest h (fun _ _ _ _ => ⟨fun _ => ⟨fun z => by omega, fun _ => ⟨fun _ => k_first h (fun _ _ _ _ => ⟨fun _ => ?_, fun z => absurd z hs⟩) (fun z => absurd hg z), fun z => by omega⟩⟩, fun z => absurd z (by decide)⟩) (fun z => absurd hg z)
          intro _ _ _
          refine k_guest h (fun _ _ _ _ => ⟨fun z => absurd z (by decide), fun _ => ⟨⟨hg.1, by omega⟩, wl fun _ _ => s_begin (fun _ => ?_)⟩⟩) (fun z => absurd hg z)
          obtain ⟨A, hA⟩ : ∃ A, A = bgM (wi μ (39 + 30) g.toNat x) 249 (wi μ (39 + 30) g.toNat x 249 0) := ⟨_, rfl⟩
          rw [← hA]
          have Ak : ∀ k, k ≠ 69 → k ≠ 249 → k ≠ 250 → A k = μ k := by
            intro k a b c
            rw [hA]; funext j; simp [bgM, fillM, wi, a, b, c]
          have A69 : ∀ j, A 69 j = if j = g.toNat then x else μ 69 j := by
            intro j
            rw [hA]
            by_cases e : j = g.toNat <;> simp [bgM, fillM, wi, e]
          have A249 : A 249 0 = μ 249 0 ∧ A 249 1 = 0 ∧ A 249 2 = 0 ∧ ∀ t : Nat, t < 3 → A 250 t = 24 := by
            rw [hA]
            refine ⟨rfl, rfl, rfl, fun t ht => ?_⟩
            rcases (show t = 0 ∨ t = 1 ∨ t = 2 by omega) with rfl | rfl | rfl <;> rfl
          have Ab : iBase A := iBase_c (fun k hk => Ak k (by omega) (by omega) (by omega)) (by rw [Ak 236 (by omega) (by omega) (by omega)]) (by rw [Ak 236 (by omega) (by omega) (by omega)]) hi.2.2.1
          refine s_renew Ab (fun B hB _ => s_allowed (fun _ _ _ _ => ?_))
          have Bk : ∀ k, k ≠ 0 → k ≠ 211 → k ≠ 216 → k ≠ 221 → ¬ (231 ≤ k ∧ k < 235) → wi B 0 18 0 k = A k := fun k a b c d e => by
            rw [← hB.1 k a b c d e]; funext j; exact wi_cell a
          have hHo : iHo (wi B 0 18 0) R := by
            have o := h.2.2.1
            have q : ∀ k, 39 ≤ k → k < 73 → wi B 0 18 0 k = A k := fun k a b => Bk k (by omega) (by omega) (by omega) (by omega) (by omega)
            have q2 : ∀ k, 39 ≤ k → k < 73 → k ≠ 69 → wi B 0 18 0 k = μ k := fun k a b c => (q k a b).trans (Ak k c (by omega) (by omega))
            refine ⟨hR, fun j hj => ?_, fun w hw hw2 => ?_, fun j hj => ?_, fun g2 hg2 => ?_, fun j hj => ?_, fun j hj => ?_⟩
            · rw [q2 39 (by omega) (by omega) (by omega), Rj j (by omega)]; exact o.1 j hj
            · rw [Rj 3 (by omega)] at hw2
              have bl := h.2.1.len hw2
              rw [q2 40 (by omega) (by omega) (by omega), q2 41 (by omega) (by omega) (by omega), q2 68 (by omega) (by omega) (by omega), Rj (7 + w) (by omega), Rj (175 + w) (by omega), Rj (199 + w) (by omega)]
              have := o.2.1 w hw hw2
              refine ⟨this.1, this.2.1, this.2.2.1, fun j hj => ?_⟩
              rw [q2 (43 + w) (by omega) (by omega) (by omega), Rj (31 + 6 * w + j) (by omega)]; exact this.2.2.2 j hj
            · rw [q2 67 (by omega) (by omega) (by omega)]; exact o.2.2.1 j hj
            · rw [Rj 4 (by omega)] at hg2
              rw [q 69 (by omega) (by omega), A69]
              by_cases e : g2 = g.toNat
              · rw [if_pos e, e, Rg]
              · rw [if_neg e, Rj (295 + g2) (by omega)]; exact o.2.2.2.1 g2 hg2
            · rw [Rj 5 (by omega)] at hj
              rw [q2 70 (by omega) (by omega) (by omega), q2 71 (by omega) (by omega) (by omega), Rj (303 + j) (by omega), Rj (309 + j) (by omega)]; exact o.2.2.2.2.1 j hj
            · rw [Rj 6 (by omega)] at hj
              rw [q2 72 (by omega) (by omega) (by omega), Rj (315 + j) (by omega)]; exact o.2.2.2.2.2 j hj
          have hCg : cGrow (wi B 0 18 0) R := cGrow_c h.2.1 (fun j hj => Rj j (by omega)) (fun k a b => (Bk k (by omega) (by omega) (by omega) (by omega) (by omega)).trans (Ak k (by omega) (by omega) (by omega))) (cGrow_of h)
          have B260 : wi B 0 18 0 260 = μ 260 := (Bk 260 (by omega) (by omega) (by omega) (by omega) (by omega)).trans (Ak 260 (by omega) (by omega) (by omega))
          have B263 : wi B 0 18 0 263 = μ 263 := (Bk 263 (by omega) (by omega) (by omega) (by omega) (by omega)).trans (Ak 263 (by omega) (by omega) (by omega))
          have B265 : wi B 0 18 0 265 = μ 265 := (Bk 265 (by omega) (by omega) (by omega) (by omega) (by omega)).trans (Ak 265 (by omega) (by omega) (by omega))
          have B249 : wi B 0 18 0 249 = A 249 := Bk 249 (by omega) (by omega) (by omega) (by omega) (by omega)
          have B250 : wi B 0 18 0 250 = A 250 := Bk 250 (by omega) (by omega) (by omega) (by omega) (by omega)
          have Bc : iCache (wi B 0 18 0) := iCache_c (fun k hk => by funext j; exact wi_cell (by omega)) (rnw_cache hB)
          have Bb : iBase (wi B 0 18 0) := iBase_c (fun k hk => by funext j; exact wi_cell (by omega)) (wi_cell (by omega)) (wi_cell (by omega)) (rnw_base hB Ab)
          have B35 : wi B 0 18 0 35 = μ 35 := (Bk 35 (by omega) (by omega) (by omega) (by omega) (by omega)).trans (Ak 35 (by omega) (by omega) (by omega))
          have B36 : wi B 0 18 0 36 = μ 36 := (Bk 36 (by omega) (by omega) (by omega) (by omega) (by omega)).trans (Ak 36 (by omega) (by omega) (by omega))
          have B261 : wi B 0 18 0 261 = μ 261 := (Bk 261 (by omega) (by omega) (by omega) (by omega) (by omega)).trans (Ak 261 (by omega) (by omega) (by omega))
          have B17 : wi B 0 18 0 0 17 = 0 := (wi_place (by omega)).trans hB.2.2.1
          have B18 : wi B 0 18 0 0 18 = 0 := wi_self _ _ _ _
          obtain ⟨N, hNN⟩ : ∃ N, N = wi B 0 18 0 := ⟨_, rfl⟩
          rw [← hNN] at hHo hCg B260 B263 B265 B249 B250 Bc Bb B35 B36 B261 B17 B18 ⊢
          intro _ _ _
          have g14 : wi (wi N 260 0 0) 260 11 0 260 14 = 1 := by
            show N 260 14 = 1
            rw [B260]; exact h.1
          have g263 : wi (wi N 260 0 0) 260 11 0 263 = μ 263 := (show _ = N 263 from rfl).trans B263
          refine s_good (fun _ => ?_)
          intro _ _
          rw [g263]
          refine ⟨fun z => absurd (g14.symm.trans z) (by decide), fun _ => ⟨⟨by omega, by omega⟩, s_within (fun _ _ _ _ => ⟨fun z => absurd z (by decide), fun _ _ _ => ⟨fun _ => s_within (fun _ _ _ _ => ⟨fun _ => ?_, fun z => absurd z (by decide)⟩) (fun z => absurd ⟨hx.1, by omega⟩ z), fun z => absurd z (by decide)⟩⟩) (fun z => absurd ⟨hg.1, by omega⟩ z)⟩⟩
          rw [g263, show (295 + g).toNat = 295 + g.toNat by omega]
          refine ⟨⟨by omega, by omega⟩, fun _ => wl fun _ => ?_, fun z => absurd z hs⟩
          have e263 : wi (wi (wi N 260 0 0) 260 11 0) 263 (295 + g.toNat) x 263 = R := by
            funext j
            rw [eR]
            show (if 263 = 263 ∧ j = 295 + g.toNat then x else wi (wi N 260 0 0) 260 11 0 263 j) = _
            rw [g263]
            by_cases e : j = 295 + g.toNat
            · rw [if_pos ⟨rfl, e⟩]; exact (if_pos e).symm
            · rw [if_neg (fun z => e z.2)]; exact (if_neg e).symm
          refine r_did e263 hR (fun ω q1 q2 q3 q4 q5 q6 _ _ _ _ => ⟨rfl, ?_⟩)
          have wk : ∀ k, k ≠ 260 → k ≠ 263 → wi (wi (wi N 260 0 0) 260 11 0) 263 (295 + g.toNat) x k = N k := by
            intro k a b
            funext j
            rw [wi_cell b, wi_cell a, wi_cell a]
          refine Inv_act (h := μ 249 0) hi h hR hN.2.1.2.1 hN.2.1.2.2 hHo hCg ?_ Bc Bb B17 B35 B36 B261 B260 B18 (fun k hk => (q1 k hk).trans (wk k (by omega) (by omega))) q2 q3 ⟨?_, q4.2⟩ q5 ?_ (fun j a b c => ?_) (fun y => ?_)
          · rw [B249, B250]; exact A249
          · rw [q4.1, wk 265 (by omega) (by omega), B265]
            exact hN.2.1.1.symm
          · rw [q6 11 (by omega)]; rfl
          · rw [q6 j c]
            rw [show wi (wi (wi N 260 0 0) 260 11 0) 263 (295 + g.toNat) x 260 j = N 260 j by rw [wi_cell (by omega), wi_place b, wi_place a], B260]
          · have zz : rnw A B := hB
            refine ⟨fun z => ?_, fun z => ?_, fun z => ?_, fun j hj z => ?_, fun x y z h1 h2 h3 _ g _ => ?_, fun x y z h1 h2 h3 _ k hk => ?_⟩
            · rw [q1 211 (by omega), wk 211 (by omega) (by omega), hNN, wi_cell (by omega)] at z; exact absurd zz.2.2.2.1 z
            · rw [q1 216 (by omega), wk 216 (by omega) (by omega), hNN, wi_cell (by omega)] at z; exact absurd zz.2.2.2.2.1 z
            · rw [q1 221 (by omega), wk 221 (by omega) (by omega), hNN, wi_cell (by omega)] at z; exact absurd zz.2.2.2.2.2.1 z
            · rw [q1 231 (by omega), wk 231 (by omega) (by omega), hNN, wi_cell (by omega), zz.2.2.2.2.2.2.1 j hj] at z; omega
            · left
              rw [q1 233 (by omega), wk 233 (by omega) (by omega), hNN, wi_cell (by omega), zz.2.2.2.2.2.2.2.1 _ (slotN_lt h1 h2 h3)]; exact nib_zero g
            · left
              rw [q1 234 (by omega), wk 234 (by omega) (by omega), hNN, wi_cell (by omega)]
              exact zz.2.2.2.2.2.2.2.2 _ (by have := slotN_lt h1 h2 h3; omega)
      · have ref : tX11_rename g x (wi μ 0 18 2) (fun r' ν => (r' = 0 ∨ r' = 1) → xRan ν → ((0 = r') ∧ (Inv ν))) := by
          intro _ _ _
          exact s_good (fun _ => r_guest (iOpen_m h _) (m_263 μ _) (fun _ _ _ _ => ⟨fun _ => s_within (fun a b => absurd ⟨a, by omega⟩ hx) (fun _ _ _ => ⟨fun z => absurd z (by decide), fun _ => s_isNot (fun _ _ _ _ => ⟨rfl, K_no (hK 2 (by decide))⟩)⟩), fun z => absurd z (by decide)⟩) (fun z => absurd hg z))
        intro _ _ _
        refine k_guest h (fun _ _ _ _ => ⟨fun _ => ⟨fun _ => s_denied (fun _ _ _ _ => ref), fun _ => ⟨fun z => absurd ⟨by omega, z⟩ hx, fun _ => s_denied (fun _ _ _ _ => ref)⟩⟩, fun z => absurd z (by decide)⟩) (fun z => absurd hg z)
    · intro _ _ _
      refine k_guest h (fun a b => absurd ⟨a, b⟩ hg) (fun _ _ _ => ⟨fun z => absurd z (by decide), fun _ => s_denied (fun _ _ _ _ => ?_)⟩)
      intro _ _ _
      exact s_good (fun _ => r_guest (iOpen_m h _) (m_263 μ _) (fun a b => absurd ⟨a, b⟩ hg) (fun _ _ _ => ⟨fun z => absurd z (by decide), fun _ => s_isNot (fun _ _ _ _ => ⟨rfl, K_no (hK 1 (by decide))⟩)⟩))
  · intro _ _ _
    refine k_guestS h (fun _ _ => ⟨fun z => absurd z (by decide), fun _ => s_denied (fun _ _ _ _ => ?_)⟩)
    intro _ _ _
    exact s_good (fun _ => r_guestS (iShut_m h _) (fun _ _ => ⟨fun z => absurd z (by decide), fun _ => s_isNot (fun _ _ _ _ => ⟨rfl, K_no (hK 1 (by decide))⟩)⟩))
