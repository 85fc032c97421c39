/-! stairs: how far kinds are -/
noncomputable def nbL (R : Nat → Int) (w : Nat) : List Nat := upsF R w ++ (if w = 24 then [] else downsF R w)
theorem nbL_adj {R : Nat → Int} {w v : Nat} (h : v ∈ nbL R w) : adjF R w v ∧ v < 25 := by
  unfold nbL at h
  rcases List.mem_append.1 h with z | z
  · have := upsF_mem.1 z
    exact ⟨Or.inl this.2, by omega⟩
  · split at z
    · simp at z
    · have := downsF_mem.1 z
      exact ⟨Or.inr this.2, this.1⟩
theorem nbL_all {R : Nat → Int} (hR : okR R) {w v : Nat} (hv : v < 25) (h : adjF R w v) : v ∈ nbL R w := by
  have bW := hR.W
  unfold nbL
  rcases h with z | z
  · have := (byF_ge z).1.1
    exact List.mem_append.2 (Or.inl (upsF_mem.2 ⟨by omega, z⟩))
  · have := (byF_ge z).1.1
    rw [if_neg (by omega)]
    exact List.mem_append.2 (Or.inr (downsF_mem.2 ⟨hv, z⟩))
theorem s_measure7 {μ : xM} {p g : Nat} {Q : xM → Prop} (h : iOpW μ) (hp : 239 ≤ p ∧ p < 242) (hg : g < 25)
    (hq : ∀ ν : xM, (∀ k, k ≠ p → k ≠ 242 → ν k = μ k) → isDist (adjF (μ 263)) 25 g (ν p) → (∀ v : Nat, v < 25 → ν p v < 25) → Q ν) : tX7_measure p 25 g μ Q := by
  have hR := h.2.1
  have bW := hR.W
  have ok : ∀ ν : xM, (∀ k, k ≠ p → k ≠ 242 → ν k = μ k) → iOpW ν := fun ν f => iOpW_c (by rw [f 260 (by omega) (by omega)]) (fun k hk => f k (by omega) (by omega)) h
  intro _ _
  refine s_fill (by omega) (fun _ => ⟨fun z => by omega, fun _ => ⟨fun z => by omega, fun _ => ⟨fun _ => ⟨⟨by omega, by omega⟩, wl fun _ => wl fun _ => ?_⟩, fun z => absurd (by decide) z⟩⟩⟩)
  rw [Int.toNat_natCast]
  refine ⟨fun m t hd ν => ∃ l : List Nat, t = l.length ∧ 0 ≤ hd ∧ hd ≤ t ∧ m = (25 - hd).toNat ∧ (∀ k, k ≠ p → k ≠ 242 → ν k = μ k) ∧ rowL (ν 242) l ∧ bfs (adjF (μ 263)) 25 g (ν p) l hd.toNat, ⟨25, [g], rfl, by omega, by omega, rfl, fun k a b => ?_, fun i hi => ?_, bfs_start (by omega) ?_ (fun u hu hu2 => ?_)⟩, ?_⟩
  · funext j; rw [wi_cell b, wi_cell a]; unfold fillM; rw [if_neg (by omega)]
  · have : i = 0 := by simp at hi; omega
    subst this
    rw [wi_self]; rfl
  · rw [wi_cell (by omega), wi_self]
  · rw [wi_cell (by omega), wi_place hu2]; unfold fillM; rw [if_pos ⟨rfl, hu⟩]
  · rintro m t hd ν ⟨l, rfl, h0, hle, rfl, f1, f2, f3⟩ _
    have ll := nodup_le _ l f3.1 f3.2.1
    have fin : (l.length : Int) ≤ hd → Q ν := fun c => by
      have q := bfs_end f3 (by omega)
      exact hq ν f1 q.1 q.2
    refine ⟨⟨by omega, by omega⟩, ⟨by omega, by omega⟩, fin, fun c => ⟨fun d => by omega, fun d => ⟨⟨h0, by omega⟩, ?_⟩⟩⟩
    have hh : hd.toNat < l.length := by omega
    have ew : ν 242 hd.toNat = (l[hd.toNat] : Nat) := f2 _ hh
    have lw := f3.2.1 _ (List.getElem_mem hh)
    rw [ew]
    obtain ⟨w, ewn⟩ : ∃ w, w = l[hd.toNat] := ⟨_, rfl⟩
    rw [← ewn] at lw ⊢
    have no := ok ν f1
    have n3 : ν 263 = μ 263 := f1 263 (by omega) (by omega)
    have ql := upsF_len (R := μ 263) (w := w)
    have dl := downsF_len (R := μ 263) (v := w)
    refine s_ups (by omega) (by omega) (fun _ _ => ?_)
    rw [Int.toNat_natCast, (no.2.2.2.2.2.2.1 w (by omega)).1, n3]
    have nbl : (nbL (μ 263) w).length = (upsF (μ 263) w).length + (if w = 24 then 0 else (downsF (μ 263) w).length) := by
      unfold nbL
      rw [List.length_append]
      split <;> simp
    refine up2b (n := ((nbL (μ 263) w).length : Int)) (fun i t ω => ∃ l' : List Nat, ∃ hx : hd.toNat < l'.length, l'[hd.toNat] = w ∧ t = l'.length ∧ (∀ k, k ≠ p → k ≠ 242 → ω k = μ k) ∧ rowL (ω 242) l' ∧ bfs (adjF (μ 263)) 25 g (ω p) l' hd.toNat ∧ ∀ j, (hj : j < (nbL (μ 263) w).length) → (j : Int) < i → 0 ≤ ω p (nbL (μ 263) w)[j]) (by omega) ⟨l, hh, ewn.symm, rfl, f1, f2, f3, fun j hj z => by omega⟩ ?_
    rintro i t ω K i0 i1 ⟨l', hx, ex, rfl, k1, k2, k3, k4⟩ _ hK
    have ll' := nodup_le _ l' k3.1 k3.2.1
    have oo := ok ω k1
    have o3 : ω 263 = μ 263 := k1 263 (by omega) (by omega)
    obtain ⟨i, rfl⟩ : ∃ n : Nat, i = n := ⟨i.toNat, by omega⟩
    -- how many are below
    have body : ∀ dn : Int, dn = (if w = 24 then (0 : Int) else (downsF (μ 263) w).length) → (xIn (i : Int)) ∧ ((xIn (((upsF (μ 263) w).length : Int) + dn)) ∧ ((((((upsF (μ 263) w).length : Int) + dn) ≤ i → ∃ n', n' < (25 - hd).toNat ∧ ∃ l : List Nat, (l'.length : Int) = l.length ∧ 0 ≤ hd + 1 ∧ hd + 1 ≤ l'.length ∧ n' = (25 - (hd + 1)).toNat ∧ (∀ k, k ≠ p → k ≠ 242 → ω k = μ k) ∧ rowL (ω 242) l ∧ bfs (adjF (μ 263)) 25 g (ω p) l (hd + 1).toNat) ∧
  (¬ (((upsF (μ 263) w).length : Int) + dn) ≤ i → ((((upsF (μ 263) w).length : Int) ≤ i → (xIn ((i : Int) - (upsF (μ 263) w).length)) ∧ (tX1_downOf w ((i : Int) - (upsF (μ 263) w).length) ω (fun r42 μ40 => (xIn r42) → xRan μ40 → (tX7_measure_b127 p 25 g l'.length hd w (upsF (μ 263) w).length i r42 μ40 Q (fun a0' a1' μ' => ∃ n', n' < (25 - hd).toNat ∧ ∃ l : List Nat, a0' = l.length ∧ 0 ≤ a1' ∧ a1' ≤ a0' ∧ n' = (25 - a1').toNat ∧ (∀ k, k ≠ p → k ≠ 242 → μ' k = μ k) ∧ rowL (μ' 242) l ∧ bfs (adjF (μ 263)) 25 g (μ' p) l a1'.toNat) K)))) ∧
  (¬ ((upsF (μ 263) w).length : Int) ≤ i → tX1_upOf w i ω (fun r64 μ62 => (xIn r64) → xRan μ62 → (tX7_measure_b127 p 25 g l'.length hd w (upsF (μ 263) w).length i r64 μ62 Q (fun a0' a1' μ' => ∃ n', n' < (25 - hd).toNat ∧ ∃ l : List Nat, a0' = l.length ∧ 0 ≤ a1' ∧ a1' ≤ a0' ∧ n' = (25 - a1').toNat ∧ (∀ k, k ≠ p → k ≠ 242 → μ' k = μ k) ∧ rowL (μ' 242) l ∧ bfs (adjF (μ 263)) 25 g (μ' p) l a1'.toNat) K)))))))) := by
      intro dn hdn
      have tot : ((nbL (μ 263) w).length : Int) = (upsF (μ 263) w).length + dn := by rw [nbl, hdn]; split <;> omega
      have dr : 0 ≤ dn ∧ dn ≤ 25 := by rw [hdn]; split <;> omega
      have b127 : ∀ (v : Nat) (J39 : Int → Int → xM → Prop), ∀ hj : i < (nbL (μ 263) w).length, v = (nbL (μ 263) w)[i] → tX7_measure_b127 p 25 g l'.length hd w (upsF (μ 263) w).length i v ω Q J39 K := by
        intro v J39 hj ev _
        have av := nbL_adj (show v ∈ nbL (μ 263) w by rw [ev]; exact List.getElem_mem hj)
        have skip : 0 ≤ ω p v → K (l'.length : Int) (i + 1) ω := by
          intro z
          refine hK _ _ (by omega) ⟨l', hx, ex, rfl, k1, k2, k3, fun j hj2 z2 => ?_⟩
          by_cases q : j = i
          · subst q; rw [← ev]; exact z
          · exact k4 j hj2 (by omega)
        have b11 := k3.2.2.2.2.2.2.2.2.2.2 hd.toNat hx
        have b4 := k3.2.2.2.1 l'[hd.toNat] (by rw [ex]; exact lw)
        have b0 := (k3.2.2.1 _ (show l'[hd.toNat] < 25 by rw [ex]; exact lw)).1 (List.getElem_mem hx)
        rw [ex] at b11 b4 b0
        rw [Int.toNat_natCast, Int.toNat_natCast, Int.toNat_natCast]
        refine ⟨⟨by omega, by omega⟩, fun z => by omega, fun _ => ⟨fun z => by omega, fun _ => ⟨⟨by omega, by omega⟩, skip, fun z => ⟨⟨by omega, by omega⟩, fun z2 => ?_, fun z2 => ⟨⟨by omega, by omega⟩, ⟨by omega, by omega⟩, wl fun _ => ⟨⟨by omega, by omega⟩, wl fun _ => hK _ _ (by omega) ⟨l' ++ [v], by simp; omega, ?_, by simp, fun k a b => ?_, rowL_s (rowL_c k2 (fun j hj => ?_)) ?_, ?_, fun j hj2 z3 => ?_⟩⟩⟩⟩⟩⟩⟩
        · exfalso
          have := nodup_lt k3.1 k3.2.1 (v := v) av.2 (fun q => z ((k3.2.2.1 v av.2).1 q))
          omega
        · rw [List.getElem_append_left hx]; exact ex
        · rw [← k1 k a b]; funext j; rw [wi_cell b, wi_cell a]
        · rw [wi_place (by omega), wi_cell (by omega)]
        · rw [wi_self]
        · have fa : wi (wi ω p v (ω p w + 1)) 242 l'.length (v : Nat) p = fun j => if j = v then ω p w + 1 else ω p j := by
            funext j
            rw [wi_cell (by omega)]
            by_cases q : j = v
            · rw [q, wi_self]; simp
            · rw [wi_place q]; simp [q]
          rw [fa]
          refine bfs_add k3 hx av.2 z (by rw [ex]; exact av.1) ?_ (fun u hu => if_neg hu)
          rw [ex]; exact if_pos rfl
        · rw [wi_cell (by omega)]
          by_cases q : (nbL (μ 263) w)[j] = v
          · rw [q, wi_self]; omega
          · rw [wi_place q]
            refine k4 j hj2 ?_
            have : j ≠ i := by rintro rfl; exact q ev.symm
            omega
      refine ⟨⟨by omega, by omega⟩, ⟨by omega, by omega⟩, fun z => ⟨(25 - (hd + 1)).toNat, by omega, l', rfl, by omega, by omega, rfl, k1, k2, ?_⟩, fun z => ⟨fun z2 => ⟨⟨by omega, by omega⟩, ?_⟩, fun z2 => ?_⟩⟩
      · rw [show (hd + 1).toNat = hd.toNat + 1 by omega]
        refine bfs_next k3 hx (fun u hu a => ?_)
        rw [ex] at a
        obtain ⟨j, hj, ej⟩ := List.getElem_of_mem (nbL_all hR hu a)
        rw [← ej]
        exact k4 j hj (by omega)
      · have w24 : w ≠ 24 := by
          intro z3
          rw [if_pos z3] at hdn; omega
        have hdn2 : dn = (downsF (μ 263) w).length := by rw [hdn, if_neg w24]
        refine s_downOf (by omega) (by omega) (by omega) (by omega) (fun _ _ => ?_)
        have hjd : i - (upsF (μ 263) w).length < (downsF (μ 263) w).length := by omega
        have dv := (oo.2.2.2.2.2.2.2.1 w (by omega)).2 (i - (upsF (μ 263) w).length) (by rw [o3]; exact hjd)
        simp only [o3] at dv
        rw [Int.toNat_natCast, show ((i : Int) - (upsF (μ 263) w).length).toNat = i - (upsF (μ 263) w).length by omega, dv]
        refine b127 _ _ (by omega) ?_
        simp only [nbL, if_neg w24]
        rw [List.getElem_append_right (by omega)]
      · refine s_upOf (by omega) (by omega) (by omega) (by omega) (fun _ _ => ?_)
        have hju : i < (upsF (μ 263) w).length := by omega
        have uv := (oo.up (w := w) (by omega) (show i < (upsF (ω 263) w).length by rw [o3]; exact hju)).1
        simp only [o3] at uv
        rw [Int.toNat_natCast, Int.toNat_natCast, uv]
        refine b127 _ _ (by omega) ?_
        simp only [nbL]
        rw [List.getElem_append_left hju]
    by_cases w24 : w = 24
    · have b0 := body 0 (by rw [if_pos w24])
      subst w24
      exact s_downsE (fun _ _ => b0)
    · have c0 : (0 : Int) ≤ (w : Int) := by omega
      have c1 : (w : Int) < 24 := by omega
      have c2 : w < 24 := by omega
      refine s_downs c0 c1 (fun _ _ => ?_)
      rw [Int.toNat_natCast, (oo.2.2.2.2.2.2.2.1 w c2).1, o3]
      exact body (downsF (μ 263) w).length (by rw [if_neg w24])
theorem s_farOf7 {μ : xM} {t w : Nat} {Q : Int → xM → Prop} (ht : t < 3) (hw : w < 25) (hq : Q (μ (239 + t) w) μ) : tX7_farOf t w μ Q := by
  intro _ _ _
  refine ⟨fun z => by omega, fun _ => ⟨fun z => by omega, fun _ => ⟨fun z => by omega, fun _ => ⟨fun z => by omega, fun _ => ⟨⟨by omega, by omega⟩, ⟨by omega, by omega⟩, ?_⟩⟩⟩⟩⟩
  rw [Int.toNat_natCast, Int.toNat_natCast]; exact hq
def awS (μ ν : xM) : Prop := ∀ k, ¬ (239 ≤ k ∧ k ≤ 242) → ν k = μ k
theorem s_awayFrom {μ : xM} {f h : Nat → Nat} {Q : Int → xM → Prop} (hi : iOpW μ) (hf : ∀ j, j < 3 → f j ≤ 24) (hh : ∀ j, j < 3 → h j ≤ 24)
    (hqN : ∀ (ν : xM) (t : Nat) (D : Nat → Int), awS μ ν → (t : Int) < μ 263 0 → isDist (adjF (μ 263)) 25 (h t) D → D (f t) < 0 → Q (-1) ν)
    (hqY : ∀ ν : xM, awS μ ν → (∀ t : Nat, (t : Int) < μ 263 0 → isDist (adjF (μ 263)) 25 (h t) (ν (239 + t)) ∧ (∀ v : Nat, v < 25 → ν (239 + t) v < 25) ∧ 0 ≤ ν (239 + t) (f t)) → Q (sumN (fun t => ν (239 + t) (f t)) (μ 263 0).toNat) ν) : tX7_awayFrom (cdX f) (cdX h) μ Q := by
  have hR := hi.2.1
  have bT := hR.T
  intro _ _ _
  refine up2b (n := μ 263 0) (fun t s ν => awS μ ν ∧ (∀ t' : Nat, (t' : Int) < t → isDist (adjF (μ 263)) 25 (h t') (ν (239 + t')) ∧ (∀ v : Nat, v < 25 → ν (239 + t') v < 25) ∧ 0 ≤ ν (239 + t') (f t')) ∧ s = sumN (fun t => ν (239 + t) (f t)) t.toNat ∧ 0 ≤ s ∧ s ≤ 25 * t) (by omega) ⟨fun _ _ => rfl, fun t' z => by omega, rfl, by omega, by omega⟩ ?_
  rintro t s ν K t0 t1 ⟨a1, a2, rfl, s0, s1⟩ _ hK
  obtain ⟨t, rfl⟩ : ∃ n : Nat, t = n := ⟨t.toNat, by omega⟩
  rw [Int.toNat_natCast] at s0 s1 ⊢
  have no : iOpW ν := iOpW_c (by rw [a1 260 (by omega)]) (fun k hk => a1 k (by omega)) hi
  have n3 : ν 263 = μ 263 := a1 263 (by omega)
  have e0 : ν 39 0 = μ 263 0 := by rw [no.2.2.1.1 0 (by omega), n3]
  rw [e0]
  have fin : (t : Int) = μ 263 0 → xIn (sumN (fun t => ν (239 + t) (f t)) t) ∧ Q (sumN (fun t => ν (239 + t) (f t)) t) ν := fun z => by
    refine ⟨⟨by omega, by omega⟩, ?_⟩
    have := hqY ν a1 (fun t' z2 => a2 t' (by omega))
    rw [show (μ 263 0).toNat = t by omega] at this
    exact this
  refine ⟨⟨by omega, by omega⟩, fun d => fin (by omega), fun d => ⟨fun d2 => fin (by omega), fun d2 => ⟨⟨by omega, by omega⟩, s_kindAt hh (by omega) (fun _ _ => ?_)⟩⟩⟩
  have ht := hh t (by omega)
  have ft := hf t (by omega)
  refine s_measure7 (p := 239 + t) no (by omega) (by omega) (fun ω m1 m2 m3 _ => s_kindAt hf (by omega) (fun _ _ => s_farOf7 (by omega) (by omega) (fun _ _ => ?_)))
  rw [n3] at m2
  have aw : awS μ ω := fun k hk => (m1 k (by omega) (by omega)).trans (a1 k hk)
  have old : ∀ t' : Nat, t' < t → ω (239 + t') = ν (239 + t') := fun t' z => m1 (239 + t') (by omega) (by omega)
  have bd := m3 (f t) (by omega)
  refine ⟨fun z => hK _ _ (by omega) ⟨aw, fun t' z2 => ?_, ?_, by omega, by omega⟩, fun z => hqN ω t (ω (239 + t)) aw (by omega) m2 (by omega)⟩
  · by_cases q : t' = t
    · subst q; exact ⟨m2, m3, z⟩
    · have := a2 t' (by omega)
      rw [old t' (by omega)]; exact this
  · rw [show ((t : Int) + 1).toNat = t + 1 by omega]
    simp only [sumN]
    rw [sumN_c (f := fun t => ω (239 + t) (f t)) (g := fun t => ν (239 + t) (f t)) t (fun c hc => by rw [old c hc])]
