/-! the reference's plans -/
theorem rw3_mem {R : Nat → Int} {a b c : Nat} (ha : stF R a 0) (hb : stF R b 1) (hc : stF R c 2) : rowW R (rw3 a b c) ∧ (rw3 a b c).length ≤ 3 := by
  have g : ∀ w t, stF R w t → w ≠ 24 → (w : Int) < R 3 := fun w t h q => (h.resolve_left q).2.1
  unfold rw3
  by_cases ea : a = 24
  · rw [if_pos ea]; exact ⟨fun w hw => by simp at hw, by simp⟩
  · rw [if_neg ea]
    have g1 := g a 0 ha ea
    by_cases eb : b = 24
    · rw [if_pos eb]
      refine ⟨fun w hw => ?_, by simp⟩
      simp only [List.mem_cons, List.not_mem_nil, or_false] at hw
      rw [hw]; exact g1
    · rw [if_neg eb]
      have g2 := g b 1 hb eb
      by_cases ec : c = 24
      · rw [if_pos ec]
        refine ⟨fun w hw => ?_, by simp⟩
        simp only [List.mem_cons, List.not_mem_nil, or_false] at hw
        rcases hw with hw | hw <;> rw [hw]
        · exact g1
        · exact g2
      · rw [if_neg ec]
        have g3 := g c 2 hc ec
        refine ⟨fun w hw => ?_, by simp⟩
        simp only [List.mem_cons, List.not_mem_nil, or_false] at hw
        rcases hw with hw | hw | hw <;> rw [hw]
        · exact g1
        · exact g2
        · exact g3
theorem r_plans {σ : Type} {J : σ → List Nat → σ} {enc : σ → xM → Prop} {μ : xM} {R : Nat → Int} {H : Int → Int} {N md : Int} {s0 : σ} {Q : xM → Prop} (e : μ 263 = R) (hR : okR R) (hH : ∀ c : Nat, c < 26 → μ 273 c = H c) (hHb : ∀ c : Nat, c < 26 → 0 ≤ H c ∧ H c ≤ 10) (hS : sumN (fun c => H c) 26 = N)
    (h0 : ∀ ω : xM, (∀ k, k ≠ 260 → ω k = μ k) → ω 260 29 = -1 → ω 260 30 = 0 → ω 260 31 = 0 → ω 260 32 = -2 → ω 260 33 = -2 → enc s0 ω) (hE : ∀ s ν ω, enc s ν → (∀ k, k ≠ 275 → ω k = ν k) → enc s ω)
    (hJ : ∀ (s : σ) (ν : xM) (row : List Nat) (r : Nat → Nat) (K : xM → Prop), ν 263 = R → (∀ c : Nat, c < 26 → ν 273 c = H c) → enc s ν → rowW R row → row.length ≤ 3 → tri R r ν → (∀ x : Int, sumN (fun t => cntW R (r t) x) 3 = needL R row x) → sumN (fun t => lnF R (r t)) 3 = lenL R row → sumN (fun t => vlF R (r t)) 3 = valL R row → sumN (fun t => oneF (r t)) 3 = row.length → (∀ t, t < 3 → r t = row.getD t 24) → (∀ ω : xM, enc (J s row) ω → rpS ν ω → K ω) →
      ((md = 0 → tX11_addUp ν (fun r66 μ64 => (r66 = 0 ∨ r66 = 1) → xRan μ64 → (((r66 = 0 → K μ64) ∧ (r66 = 1 → (xIn N) ∧ (tX11_judge N μ64 (fun μ70 => xRan μ70 → K μ70))))))) ∧ (md = 1 → (xIn N) ∧ (tX11_wanted N ν (fun μ73 => xRan μ73 → K μ73)))))
    (hq : ∀ ω : xM, enc ((L0 R 0).foldl J s0) ω → rpS μ ω → Q ω) : tX11_plans md μ Q := by
  have bT := hR.T
  have bW := hR.W
  intro _ _
  refine wl fun _ => wl fun _ => wl fun _ => wl fun _ => wl fun _ => ?_
  obtain ⟨M, eM⟩ : ∃ M, M = wi (wi (wi (wi (wi μ 260 29 (-1)) 260 30 0) 260 31 0) 260 32 (-2)) 260 33 (-2) := ⟨_, rfl⟩
  rw [← eM]
  have Mk : ∀ k, k ≠ 260 → M k = μ k := fun k hk => by rw [eM]; funext j; rw [wi_cell hk, wi_cell hk, wi_cell hk, wi_cell hk, wi_cell hk]
  have Mr : rpS μ M := ⟨fun k a _ _ _ => Mk k a, fun j p => by rw [eM, wi_place (by omega), wi_place (by omega), wi_place (by omega), wi_place (by omega), wi_place (by omega)]⟩
  have M0 : enc s0 M := h0 M Mk (by rw [eM, wi_place (by omega), wi_place (by omega), wi_place (by omega), wi_place (by omega), wi_self]) (by rw [eM, wi_place (by omega), wi_place (by omega), wi_place (by omega), wi_self]) (by rw [eM, wi_place (by omega), wi_place (by omega), wi_self]) (by rw [eM, wi_place (by omega), wi_self]) (by rw [eM, wi_self])
  refine rd2b (n := 26) (fun c s => s = sumN (fun c => H c) c.toNat ∧ 0 ≤ s ∧ s ≤ 10 * c) (by omega) ⟨rfl, by omega, by omega⟩ ?_
  rintro c s K c0 c1 ⟨rfl, s1, s2⟩ hK
  refine ⟨⟨by omega, by omega⟩, fun d => ?_, fun d => ⟨⟨c0, by omega⟩, hK _ (by omega) ?_⟩⟩
  rotate_left
  · rw [Mk 273 (by omega), hH c.toNat (by omega), show (c + 1).toNat = c.toNat + 1 by omega]
    have := hHb c.toNat (by omega)
    exact ⟨rfl, by omega, by omega⟩
  have eN : sumN (fun c => H c) c.toNat = N := by rw [show c.toNat = 26 by omega]; exact hS
  rw [eN]
  have xN : xIn N := by rw [← eN]; exact ⟨by omega, by omega⟩
  obtain ⟨S, hSS⟩ : ∃ S, S = (L0 R 0).foldl J s0 := ⟨_, rfl⟩
  rw [← hSS] at hq
  refine up1 (n := 25) (fun a ν => ∃ s, enc s ν ∧ rpS μ ν ∧ (L0 R a.toNat).foldl J s = S) (by omega) ⟨s0, M0, Mr, hSS.symm⟩ ?_
  rintro a ν K0 a0 a1 ⟨s, he, sv, hs⟩ _ hK0
  obtain ⟨a, rfl⟩ : ∃ n : Nat, a = n := ⟨a.toNat, by omega⟩
  rw [Int.toNat_natCast] at hs
  refine ⟨⟨by omega, by omega⟩, fun d => ?_, fun d => ?_⟩
  · have : L0 R a = [] := tailF_25 (by omega)
    rw [this] at hs
    rw [List.foldl_nil] at hs
    exact hq ν (by rw [← hs]; exact he) sv
  rw [L0_step hR (by omega)] at hs
  refine up1 (n := 25) (fun b ν => ∃ s, enc s ν ∧ rpS μ ν ∧ (L1 R a b.toNat ++ L0 R (a + 1)).foldl J s = S) (by omega) ⟨s, he, sv, by rw [Int.toNat_natCast]; exact hs⟩ ?_
  rintro b ν1 K1 b0 b1 ⟨s1', he1, sv1, hs1⟩ _ hK1
  obtain ⟨b, rfl⟩ : ∃ n : Nat, b = n := ⟨b.toNat, by omega⟩
  rw [Int.toNat_natCast] at hs1
  refine ⟨⟨by omega, by omega⟩, fun d1 => hK0 _ (by omega) ⟨s1', he1, sv1, ?_⟩, fun d1 => ?_⟩
  · have : L1 R a b = [] := by unfold L1; split; exact tailF_25 (by omega); rfl
    rw [this, List.nil_append] at hs1
    rw [show ((a : Int) + 1).toNat = a + 1 by omega]; exact hs1
  rw [L1_step hR (by omega) (by omega), List.append_assoc] at hs1
  refine up1 (n := 25) (fun c ν => ∃ s, enc s ν ∧ rpS μ ν ∧ (L2 R a b c.toNat ++ (L1 R a (b + 1) ++ L0 R (a + 1))).foldl J s = S) (by omega) ⟨s1', he1, sv1, by rw [Int.toNat_natCast]; exact hs1⟩ ?_
  rintro c' ν2 K2 c0' c1' ⟨s2', he2, sv2, hs2⟩ _ hK2
  obtain ⟨c', rfl⟩ : ∃ n : Nat, c' = n := ⟨c'.toNat, by omega⟩
  rw [Int.toNat_natCast] at hs2
  refine ⟨⟨by omega, by omega⟩, fun d2 => hK1 _ (by omega) ⟨s2', he2, sv2, ?_⟩, fun d2 => ⟨⟨by omega, by omega⟩, ?_⟩⟩
  · have : L2 R a b c' = [] := by unfold L2; split; exact tailF_25 (by omega); rfl
    rw [this, List.nil_append] at hs2
    rw [show ((b : Int) + 1).toNat = b + 1 by omega]; exact hs2
  rw [L2_step hR (by omega) (by omega) (by omega), List.append_assoc] at hs2
  have e2 : ν2 263 = R := (sv2.1 263 (by omega) (by omega) (by omega) (by omega)).trans e
  have nc : ((c' : Int) + 1).toNat = c' + 1 := by omega
  have skip : ¬ (stF R a 0 ∧ stF R b 1 ∧ stF R c' 2) → K2 (c' + 1) ν2 := by
    intro z
    rw [if_neg z, List.nil_append] at hs2
    exact hK2 _ (by omega) ⟨s2', he2, sv2, by rw [nc]; exact hs2⟩
  refine r_mayStand (t := 0) e2 hR (fun sa _ _ => ⟨fun z => absurd z (by decide), fun _ => ⟨⟨by omega, by omega⟩, r_mayStand (t := 1) e2 hR (fun sb _ _ => ⟨fun z => absurd z (by decide), fun _ => r_mayStand (t := 2) e2 hR (fun sc _ _ => ⟨fun _ => ?_, fun z => absurd z (by decide)⟩) (fun sc _ _ => ⟨fun z => absurd z (by decide), fun _ => skip (fun y => sc y.2.2)⟩)⟩) (fun sb _ _ => ⟨fun _ => skip (fun y => sb y.2.1), fun z => absurd z (by decide)⟩)⟩⟩) (fun sa _ _ => ⟨fun _ => skip (fun y => sa y.1), fun z => absurd z (by decide)⟩)
  refine wl fun _ => wl fun _ => wl fun _ => ?_
  obtain ⟨ξ, eξ⟩ : ∃ ξ, ξ = wi (wi (wi ν2 275 0 a) 275 1 b) 275 2 c' := ⟨_, rfl⟩
  rw [← eξ]
  have xk : ∀ k, k ≠ 275 → ξ k = ν2 k := fun k hk => by rw [eξ]; funext j; rw [wi_cell hk, wi_cell hk, wi_cell hk]
  obtain ⟨w1, w2⟩ := rw3_mem sa sb sc
  obtain ⟨q0, q1, q2, q3, q4⟩ := rw3_all (R := R) (a := a) (b := b) (c := c') (by omega) (by omega) (by omega)
  have dm : ∀ w t, stF R w t → domF R w := fun w t h => by
    rcases h with h | h
    · exact Or.inr h
    · exact Or.inl h.2.1
  have tr1 : tri R (r3 a b c') ξ := by
    intro t ht
    rcases (show t = 0 ∨ t = 1 ∨ t = 2 by omega) with rfl | rfl | rfl
    · exact ⟨by rw [eξ, wi_place (by omega), wi_place (by omega), wi_self]; rfl, dm a 0 sa⟩
    · exact ⟨by rw [eξ, wi_place (by omega), wi_self]; rfl, dm b 1 sb⟩
    · exact ⟨by rw [eξ, wi_self]; rfl, dm c' 2 sc⟩
  rw [if_pos ⟨sa, sb, sc⟩, List.singleton_append, List.foldl_cons] at hs2
  refine hJ s2' ξ (rw3 a b c') (r3 a b c') (fun ω => K2 (c' + 1) ω) ((xk 263 (by omega)).trans e2) (fun c hc => ?_) (hE _ ν2 ξ he2 xk) w1 w2 tr1 q0 q1 q2 q3 q4 (fun ω en rp => hK2 ω (by omega) ⟨J s2' (rw3 a b c'), en, ?_, by rw [nc]; exact hs2⟩)
  · rw [xk 273 (by omega), sv2.1 273 (by omega) (by omega) (by omega) (by omega)]; exact hH c hc
  · refine sv2.tt (rpS.tt ⟨fun k _ _ _ d => xk k d, fun j _ => ?_⟩ rp)
    rw [xk 260 (by omega)]
theorem L0_0 (R : Nat → Int) : L0 R 0 = spreadF (R 0).toNat (offL (gb R) 0) [] := by unfold L0 tailF; rw [if_pos (by omega)]
theorem r_plansP {μ : xM} {R : Nat → Int} {H : Int → Int} {N : Int} {Q : xM → Prop} (e : μ 263 = R) (hR : okR R) (hH : ∀ c : Nat, c < 26 → μ 273 c = H c) (hHb : ∀ c : Nat, c < 26 → 0 ≤ H c ∧ H c ≤ 10) (hS : sumN (fun c => H c) 26 = N)
    (hq : ∀ ω : xM, encRP (planF R H N (offL (gb R) 0)) ω → rpS μ ω → Q ω) : tX11_plans 0 μ Q := by
  have xN : xIn N := by
    have a := sumN_le (f := fun _ => 0) (g := fun c => H c) 26 (fun c hc => (hHb c hc).1)
    have b := sumN_le (f := fun c => H c) (g := fun _ => 10) 26 (fun c hc => (hHb c hc).2)
    rw [sumN_k] at a b
    exact ⟨by omega, by omega⟩
  refine r_plans (J := judgeF R H N) (enc := encRP) (s0 := (-1, -1, 0, 4, [])) e hR hH hHb hS (fun ω w1 w29 w30 w31 w32 _ => ?_) (fun s ν ω he hk => ?_) ?_ (fun ω en rp => hq ω ?_ rp)
  · exact ⟨w29, fun z => absurd z (by decide), w31, by rw [w32]; rfl, by decide, by decide, by decide, by decide⟩
  · obtain ⟨a, b, c, d, f⟩ := he
    refine ⟨?_, fun z => ⟨?_, fun t ht => ?_⟩, ?_, ?_, f⟩
    · rw [hk 260 (by omega)]; exact a
    · rw [hk 260 (by omega)]; exact (b z).1
    · rw [hk 274 (by omega)]; exact (b z).2 t ht
    · rw [hk 260 (by omega)]; exact c
    · rw [hk 260 (by omega)]; exact d
  · intro s ν row r K e1 h1 he hw w3 tr1 q0 q1 q2 q3 q4 hK
    refine ⟨fun _ => r_addUp e1 hR tr1 h1 (fun ω w1 w2 fit _ _ => ⟨fun z => absurd z (by decide), fun _ => ⟨xN, ?_⟩⟩) (fun ω w1 w2 fit _ _ => ⟨fun _ => hK ω ?_ ⟨fun k _ b _ _ => w1 k b, fun j _ => by rw [w1 260 (by omega)]⟩, fun z => absurd z (by decide)⟩), fun z => absurd z (by decide)⟩
    · refine r_judge (row := row) (r := r) (s := s) ((w1 263 (by omega)).trans e1) hR (fun t ht => by rw [w1 275 (by omega)]; exact tr1 t ht) w3 hw q1 q2 q3 q4 ?_ (fun ω2 en jd _ => hK ω2 ?_ ⟨fun k a b c _ => (jd.1 k a c).trans (w1 k b), fun j p => (jd.2 j p).trans (by rw [w1 260 (by omega)])⟩)
      · obtain ⟨a, b, c, d, f⟩ := he
        refine ⟨?_, fun z => ⟨?_, fun t ht => ?_⟩, ?_, ?_, f⟩
        · rw [w1 260 (by omega)]; exact a
        · rw [w1 260 (by omega)]; exact (b z).1
        · rw [w1 274 (by omega)]; exact (b z).2 t ht
        · rw [w1 260 (by omega)]; exact c
        · rw [w1 260 (by omega)]; exact d
      · unfold judgeF
        rw [if_pos (fitF_nat.2 (fun c hc => by rw [← q0]; exact fit c hc))]
        exact en
    · unfold judgeF
      rw [if_neg (fun z => fit (fun c hc => by rw [q0]; exact fitF_nat.1 z c hc))]
      obtain ⟨a, b, c, d, f⟩ := he
      refine ⟨?_, fun z => ⟨?_, fun t ht => ?_⟩, ?_, ?_, f⟩
      · rw [w1 260 (by omega)]; exact a
      · rw [w1 260 (by omega)]; exact (b z).1
      · rw [w1 274 (by omega)]; exact (b z).2 t ht
      · rw [w1 260 (by omega)]; exact c
      · rw [w1 260 (by omega)]; exact d
  · unfold planF
    rw [← L0_0]; exact en
theorem r_plansL {μ : xM} {R : Nat → Int} {H : Int → Int} {N : Int} {Q : xM → Prop} (e : μ 263 = R) (hR : okR R) (hH : ∀ c : Nat, c < 26 → μ 273 c = H c) (hHb : ∀ c : Nat, c < 26 → 0 ≤ H c ∧ H c ≤ 10) (hS : sumN (fun c => H c) 26 = N) (hN : 0 ≤ N ∧ N ≤ 100)
    (hq : ∀ ω : xM, encRL (lackF R H N (offL (gb R) 0)) ω → rpS μ ω → Q ω) : tX11_plans 1 μ Q := by
  refine r_plans (J := lackJ R H N) (enc := encRL) (s0 := (18, -1, [])) e hR hH hHb hS (fun ω w1 w29 w30 w31 w32 w33 => Or.inl ⟨rfl, rfl, w33⟩) (fun s ν ω he hk => ?_) ?_ (fun ω en rp => hq ω ?_ rp)
  · rcases he with z | z
    · exact Or.inl ⟨z.1, z.2.1, by rw [hk 260 (by omega)]; exact z.2.2⟩
    · exact Or.inr ⟨z.1, z.2.1, by rw [hk 260 (by omega)]; exact z.2.2.1, fun t ht => by rw [hk 274 (by omega)]; exact z.2.2.2 t ht⟩
  · intro s ν row r K e1 h1 he hw w3 tr1 q0 q1 q2 q3 q4 hK
    refine ⟨fun z => absurd z (by decide), fun _ => ⟨⟨by omega, by omega⟩, r_wanted e1 hR tr1 hN hS w3 hw h1 q0 q1 q4 he (fun ω en rp _ => hK ω en rp)⟩⟩
  · unfold lackF
    rw [← L0_0]; exact en
