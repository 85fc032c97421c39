/-! the reference's plans: judges -/
def rjS (ν ω : xM) : Prop := (∀ k, k ≠ 260 → k ≠ 274 → ω k = ν k) ∧ (∀ j, ¬ (29 ≤ j ∧ j ≤ 33) → ω 260 j = ν 260 j)
def encRP (s : pS) (ν : xM) : Prop := ν 260 29 = s.1 ∧ (0 ≤ s.1 → ν 260 30 = s.2.1 ∧ ∀ t, t < 3 → ν 274 t = (s.2.2.2.2.getD t 24 : Nat)) ∧ ν 260 31 = s.2.2.1 ∧ ν 260 32 = (if s.2.2.2.1 ≤ 3 then s.2.2.2.1 else -2) ∧ -1 ≤ s.1 ∧ 0 ≤ s.2.2.1 ∧ 0 ≤ s.2.2.2.1 ∧ s.2.2.2.1 ≤ 4
theorem r_judge {μ : xM} {R : Nat → Int} {N : Int} {s : pS} {row : List Nat} {r : Nat → Nat} {Q : xM → Prop} (e : μ 263 = R) (hR : okR R) (hr : tri R r μ) (h3 : row.length ≤ 3) (hw : rowW R row) (q1 : sumN (fun t => lnF R (r t)) 3 = lenL R row) (q2 : sumN (fun t => vlF R (r t)) 3 = valL R row) (q3 : sumN (fun t => oneF (r t)) 3 = row.length) (q4 : ∀ t, t < 3 → r t = row.getD t 24) (he : encRP s μ)
    (hq : ∀ ω : xM, encRP (judge1 R N s row) ω → rjS μ ω → Q ω) : tX11_judge N μ Q := by
  obtain ⟨a29, aw, a31, a32, b1, b2, b3, b4⟩ := he
  have lr := lenL_rng hR row hw
  have vr := valL_rng hR row hw
  obtain ⟨few, hf⟩ : ∃ f : Int, f = if lenL R row = N then min s.2.2.2.1 row.length else s.2.2.2.1 := ⟨_, rfl⟩
  have fr : 0 ≤ few ∧ few ≤ 4 := by rw [hf]; split <;> omega
  obtain ⟨rich, hrich⟩ : ∃ f : Int, f = max s.2.2.1 (valL R row) := ⟨_, rfl⟩
  have rr : 0 ≤ rich := by omega
  have b63 : ∀ ξ : xM, (∀ k, k ≠ 260 → ξ k = μ k) → (∀ j, j ≠ 31 → j ≠ 32 → ξ 260 j = μ 260 j) → ξ 260 31 = rich → ξ 260 32 = (if few ≤ 3 then few else -2) → tX11_judge_b63 N (lenL R row) (valL R row) ξ Q := by
    intro ξ x1 x2 x3 x4 _
    have y29 : ξ 260 29 = s.1 := by rw [x2 29 (by omega) (by omega)]; exact a29
    have y30 : ξ 260 30 = μ 260 30 := x2 30 (by omega) (by omega)
    have yes : (lenL R row > s.1 ∨ (lenL R row = s.1 ∧ valL R row > s.2.1)) → tX11_keepRow (wi (wi ξ 260 29 (lenL R row)) 260 30 (valL R row)) (fun μ30 => xRan μ30 → Q μ30) := by
      intro c
      refine r_keepRow (fun ω w1 w2 _ => hq ω ?_ ⟨fun k p q => ?_, fun j p => ?_⟩)
      · have wo := w1 260 (by omega)
        unfold judge1
        rw [if_pos c]
        refine ⟨?_, fun _ => ⟨?_, fun t ht => ?_⟩, ?_, ?_, by simp only; omega, by simp only; omega, by simp only; rw [← hf]; omega, by simp only; rw [← hf]; omega⟩
        · rw [wo, wi_place (by omega), wi_self]
        · rw [wo, wi_self]
        · rw [w2 t ht, wi_cell (by omega), wi_cell (by omega), x1 275 (by omega), (hr t ht).1, q4 t ht]
        · rw [wo, wi_place (by omega), wi_place (by omega), x3, hrich]
        · rw [wo, wi_place (by omega), wi_place (by omega), x4, hf]
      · rw [w1 k q, ← x1 k p]; funext j; rw [wi_cell p, wi_cell p]
      · rw [w1 260 (by omega), wi_place (by omega), wi_place (by omega)]; exact x2 j (by omega) (by omega)
    have noo : ¬ (lenL R row > s.1 ∨ (lenL R row = s.1 ∧ valL R row > s.2.1)) → Q ξ := by
      intro c
      have s0 : 0 ≤ s.1 := by omega
      refine hq ξ ?_ ⟨fun k p _ => x1 k p, fun j p => x2 j (by omega) (by omega)⟩
      unfold judge1
      rw [if_neg c]
      refine ⟨y29, fun _ => ⟨?_, fun t ht => ?_⟩, by rw [x3, hrich], by rw [x4, hf], b1, by simp only; omega, by simp only; rw [← hf]; omega, by simp only; rw [← hf]; omega⟩
      · rw [y30]; exact (aw s0).1
      · rw [x1 274 (by omega)]; exact (aw s0).2 t ht
    have s30 : 0 ≤ s.1 → ξ 260 30 = s.2.1 := fun z => by rw [y30]; exact (aw z).1
    rw [y29]
    refine ⟨⟨by omega, by omega⟩, fun z => noo (by omega), fun z => ⟨fun z2 => wl fun _ => ⟨⟨by omega, by omega⟩, wl fun _ => yes (by omega)⟩, fun z2 => ⟨⟨by omega, by omega⟩, fun z3 => wl fun _ => wl fun _ => yes ?_, fun z3 => noo ?_⟩⟩⟩
    · rw [s30 (by omega)] at z3; omega
    · rw [s30 (by omega)] at z3; omega
  have b27 : xIn rich → tX11_judge_b27 N (lenL R row) (valL R row) rich μ Q := by
    intro xr _
    have w1 : ∀ k, k ≠ 260 → (wi μ 260 31 rich) k = μ k := fun k hk => by funext j; exact wi_cell hk
    have tr1 : tri R r (wi μ 260 31 rich) := fun t ht => by rw [w1 275 (by omega)]; exact hr t ht
    have e32 : wi μ 260 31 rich 260 32 = (if s.2.2.2.1 ≤ 3 then s.2.2.2.1 else -2) := by rw [wi_place (by omega)]; exact a32
    have b55 : lenL R row = N → min s.2.2.2.1 row.length = row.length → tX11_judge_b55 N (lenL R row) (valL R row) (wi μ 260 31 rich) Q := by
      intro z z2 _
      refine r_wordsOf hR tr1 (fun _ _ => wl fun _ => b63 _ (fun k hk => ?_) (fun j p q => ?_) ?_ ?_)
      · funext j; rw [wi_cell hk, wi_cell hk]
      · rw [wi_place q, wi_place p]
      · rw [wi_place (by omega), wi_self]
      · rw [wi_self, q3, hf, if_pos z, z2, if_pos (by omega)]
    refine ⟨xr, wl fun _ => ⟨⟨by omega, by omega⟩, fun z => b63 _ w1 (fun j p q => wi_place p) (wi_self _ _ _ _) (by rw [e32, hf, if_neg z]), fun z => ?_⟩⟩
    rw [e32]
    refine ⟨fun z2 => b55 z ?_, fun z2 => r_wordsOf hR tr1 (fun _ _ => ?_)⟩
    · by_cases y : s.2.2.2.1 ≤ 3
      · rw [if_pos y] at z2; omega
      · omega
    · have y : s.2.2.2.1 ≤ 3 := by
        by_cases y : s.2.2.2.1 ≤ 3
        · exact y
        · rw [if_neg y] at z2; exact absurd rfl z2
      rw [e32, if_pos y, q3]
      refine ⟨fun z3 => b63 _ w1 (fun j p q => wi_place p) (wi_self _ _ _ _) ?_, fun z3 => b55 z (by omega)⟩
      rw [e32, hf, if_pos z, if_pos y, show min s.2.2.2.1 (row.length : Int) = s.2.2.2.1 by omega, if_pos y]
  intro rm _
  refine r_lettersOf e hR hr (fun _ _ => r_worthOf e hR hr (fun _ _ => ?_))
  rw [q1, q2, a31]
  have x31 : xIn s.2.2.1 := by rw [← a31]; exact rm.i (by omega)
  refine ⟨fun z => ?_, fun z => ?_⟩
  · have er : rich = s.2.2.1 := by omega
    rw [← er]; exact b27 (by rw [er]; exact x31)
  · have er : rich = valL R row := by omega
    have := b27 (by rw [er]; exact ⟨by omega, by omega⟩)
    rw [er] at this; exact this
def encRL (s : lS) (ν : xM) : Prop := (s.2.1 = -1 ∧ s.1 = 18 ∧ ν 260 33 = -2) ∨ (0 ≤ s.2.1 ∧ s.1 = s.2.1 - 1 ∧ ν 260 33 = s.2.1 ∧ ∀ t, t < 3 → ν 274 t = (s.2.2.getD t 24 : Nat))
theorem fillF_nat {R : Nat → Int} {H : Int → Int} {row : List Nat} : fillF R H row ↔ ∀ c : Nat, c < 26 → H c ≤ needL R row c := by
  constructor
  · intro h c hc; exact h c (by omega) (by omega)
  · intro h c h0 h1
    have := h c.toNat (by omega)
    rw [show ((c.toNat : Nat) : Int) = c by omega] at this
    exact this
theorem fitF_nat {R : Nat → Int} {H : Int → Int} {row : List Nat} : fitF R H row ↔ ∀ c : Nat, c < 26 → needL R row c ≤ H c := by rw [fitF_ov, ovS_zero]
def rpS (ν ω : xM) : Prop := (∀ k, k ≠ 260 → k ≠ 272 → k ≠ 274 → k ≠ 275 → ω k = ν k) ∧ (∀ j, ¬ (29 ≤ j ∧ j ≤ 33) → ω 260 j = ν 260 j)
theorem rpS.tt {μ ν ω : xM} (h : rpS μ ν) (h2 : rpS ν ω) : rpS μ ω := ⟨fun k a b c d => (h2.1 k a b c d).trans (h.1 k a b c d), fun j p => (h2.2 j p).trans (h.2 j p)⟩
theorem r_wanted {μ : xM} {R : Nat → Int} {H : Int → Int} {N : Int} {s : lS} {row : List Nat} {r : Nat → Nat} {Q : xM → Prop} (e : μ 263 = R) (hR : okR R) (hr : tri R r μ) (hN : 0 ≤ N ∧ N ≤ 100) (hS : sumN (fun c => H c) 26 = N) (h3 : row.length ≤ 3) (hw : rowW R row) (hH : ∀ c : Nat, c < 26 → μ 273 c = H c) (q0 : ∀ x : Int, sumN (fun t => cntW R (r t) x) 3 = needL R row x) (q1 : sumN (fun t => lnF R (r t)) 3 = lenL R row) (q4 : ∀ t, t < 3 → r t = row.getD t 24) (he : encRL s μ)
    (hq : ∀ ω : xM, encRL (lackJ R H N s row) ω → rpS μ ω → Q ω) : tX11_wanted N μ Q := by
  have lr := lenL_rng hR row hw
  have main : ∀ ω : xM, (∀ k, k ≠ 272 → ω k = μ k) → (∀ c : Nat, c < 26 → ω 272 c = sumN (fun t => cntW R (r t) c) 3) → (xLoop2 1 0 ω (fun J9 l2_5 l3_6 μ7 =>
  (xIn l3_6) ∧ (((26 ≤ l3_6 → (xIn l2_5) ∧ (((l2_5 = 0 → Q μ7) ∧
  (¬ l2_5 = 0 → (((μ7 260 33) = (-2) → tX11_lettersOf μ7 (fun r17 μ15 => (xIn r17) → xRan μ15 → ((xIn (r17 - N)) ∧ (∀ μ20 : xM, μ20 = wi μ15 260 33 (r17 - N) → xRan μ20 → (tX11_keepRow μ20 (fun μ23 => xRan μ23 → (Q μ23))))))) ∧
  (¬ (μ7 260 33) = (-2) → tX11_lettersOf μ7 (fun r27 μ25 => (xIn r27) → xRan μ25 → ((xIn (r27 - N)) ∧ ((((r27 - N) < (μ25 260 33) → tX11_lettersOf μ25 (fun r34 μ32 => (xIn r34) → xRan μ32 → ((xIn (r34 - N)) ∧ (∀ μ37 : xM, μ37 = wi μ32 260 33 (r34 - N) → xRan μ37 → (tX11_keepRow μ37 (fun μ40 => xRan μ40 → (Q μ40))))))) ∧
  (¬ (r27 - N) < (μ25 260 33) → Q μ25))))))))))) ∧
  (¬ 26 ≤ l3_6 → (xIn l2_5) ∧ (((l2_5 = 0 → J9 0 (l3_6 + 1) μ7) ∧
  (¬ l2_5 = 0 → (0 ≤ l3_6 ∧ l3_6 < 26) ∧ ((((μ7 272 l3_6.toNat) < (μ7 273 l3_6.toNat) → J9 0 (l3_6 + 1) μ7) ∧
  (¬ (μ7 272 l3_6.toNat) < (μ7 273 l3_6.toNat) → J9 1 (l3_6 + 1) μ7))))))))))) := by
    intro ω w1 w2
    have e3 : ω 263 = R := (w1 263 (by omega)).trans e
    have tr1 : tri R r ω := fun t ht => by rw [w1 275 (by omega)]; exact hr t ht
    have e33 : ω 260 33 = μ 260 33 := by rw [w1 260 (by omega)]
    have sm : rpS μ ω := ⟨fun k _ b _ _ => w1 k b, fun j _ => by rw [w1 260 (by omega)]⟩
    have keep : fillF R H row → lenL R row - N ≤ s.1 → tX11_keepRow (wi ω 260 33 (lenL R row - N)) (fun μ23 => xRan μ23 → Q μ23) := by
      intro c1 c2
      have sf := (fillF_ov hR hw hS).1 c1
      have on := ovS_nn (H := H) (nd := needL R row)
      refine r_keepRow (fun ω2 v1 v2 _ => hq ω2 ?_ ⟨fun k p1 p2 p3 p4 => ?_, fun j p => ?_⟩)
      · unfold lackJ
        rw [if_pos ⟨c1, c2⟩]
        refine Or.inr ⟨by simp only; omega, rfl, ?_, fun t ht => ?_⟩
        · rw [v1 260 (by omega), wi_self]
        · rw [v2 t ht, wi_cell (by omega), (tr1 t ht).1, q4 t ht]
      · rw [v1 k p3, ← w1 k p2]; funext j; exact wi_cell p1
      · rw [v1 260 (by omega), wi_place (by omega), w1 260 (by omega)]
    have noo : ¬ (fillF R H row ∧ lenL R row - N ≤ s.1) → Q ω := by
      intro c
      refine hq ω ?_ sm
      unfold lackJ
      rw [if_neg c]
      rcases he with z | z
      · exact Or.inl ⟨z.1, z.2.1, by rw [e33]; exact z.2.2⟩
      · exact Or.inr ⟨z.1, z.2.1, by rw [e33]; exact z.2.2.1, fun t ht => by rw [w1 274 (by omega)]; exact z.2.2.2 t ht⟩
    refine rd2b (n := 26) (fun c a => (a = 1 ∧ ∀ c' : Nat, (c' : Int) < c → H c' ≤ needL R row c') ∨ (a = 0 ∧ ¬ fillF R H row)) (by omega) (Or.inl ⟨rfl, fun c' hc => by omega⟩) ?_
    rintro c a K2 c0 c1 ha hK2
    obtain ⟨m, rfl⟩ : ∃ m : Nat, c = m := ⟨c.toNat, by omega⟩
    refine ⟨⟨by omega, by omega⟩, fun d2 => ?_, fun d2 => ?_⟩
    · rcases ha with ⟨rfl, ha⟩ | ⟨rfl, ha⟩
      · have fl : fillF R H row := fillF_nat.2 (fun c hc => ha c (by omega))
        refine ⟨⟨by omega, by omega⟩, fun z => absurd z (by decide), fun _ => ⟨fun z => r_lettersOf e3 hR tr1 (fun _ _ => ?_), fun z => r_lettersOf e3 hR tr1 (fun _ _ => ?_)⟩⟩
        · rw [q1]
          refine ⟨⟨by omega, by omega⟩, wl fun _ => keep fl ?_⟩
          rw [e33] at z
          rcases he with y | y <;> omega
        · rw [q1]
          rw [e33] at z ⊢
          refine ⟨⟨by omega, by omega⟩, fun z2 => r_lettersOf e3 hR tr1 (fun _ _ => ?_), fun z2 => noo (fun y => ?_)⟩
          · rw [q1]
            refine ⟨⟨by omega, by omega⟩, wl fun _ => keep fl ?_⟩
            rcases he with y | y <;> omega
          · have := y.2
            rcases he with y | y <;> omega
      · exact ⟨⟨by omega, by omega⟩, fun _ => noo (fun y => ha y.1), fun z => absurd rfl z⟩
    · rw [Int.toNat_natCast, w2 m (by omega), w1 273 (by omega), hH m (by omega), q0]
      rcases ha with ⟨rfl, ha⟩ | ⟨rfl, ha⟩
      · refine ⟨⟨by omega, by omega⟩, fun z => absurd z (by decide), fun _ => ⟨⟨by omega, by omega⟩, fun z => hK2 _ (by omega) (Or.inr ⟨rfl, fun y => ?_⟩), fun z => hK2 _ (by omega) (Or.inl ⟨rfl, fun c' hc => ?_⟩)⟩⟩
        · have := fillF_nat.1 y m (by omega); omega
        · by_cases q : c' = m
          · subst q; omega
          · exact ha c' (by omega)
      · exact ⟨⟨by omega, by omega⟩, fun _ => hK2 _ (by omega) (Or.inr ⟨rfl, ha⟩), fun z => absurd rfl z⟩
  intro _ _
  exact r_addUp e hR hr hH (fun ω w1 w2 _ _ _ => main ω w1 w2) (fun ω w1 w2 _ _ _ => main ω w1 w2)
/-! the reference's rows in their order -/
def stF (R : Nat → Int) (w t : Nat) : Prop := w = 24 ∨ ((t : Int) < R 0 ∧ goodF R w)
theorem r_mayStand {μ : xM} {R : Nat → Int} {w t : Nat} {Q : Int → xM → Prop} (e : μ 263 = R) (hR : okR R) (h1 : stF R w t → Q 1 μ) (h0 : ¬ stF R w t → Q 0 μ) : tX11_mayStand w t μ Q := by
  subst e
  have bW := hR.W
  intro _ _ _
  refine ⟨fun z => h1 (Or.inl (by omega)), fun z => ⟨fun z2 => h0 (fun y => ?_), fun z2 => ⟨fun z3 => h0 (fun y => ?_), fun z3 => r_good rfl ⟨by omega, by omega⟩ (by omega) (fun g _ _ => ⟨fun z4 => absurd z4 (by decide), fun _ => h1 (Or.inr ⟨by omega, ?_⟩)⟩) (fun g _ _ => ⟨fun _ => h0 (fun y => g ?_), fun z4 => absurd z4 (by decide)⟩)⟩⟩⟩
  · rcases y with y | y
    · omega
    · have := y.1; omega
  · rcases y with y | y
    · omega
    · have := y.2.1; omega
  · have := (goodI_nat (by omega)).1 g
    rw [Int.toNat_natCast] at this; exact this
  · rcases y with y | y
    · omega
    · rw [goodI_nat (by omega), Int.toNat_natCast]; exact y.2
noncomputable def L0 (R : Nat → Int) (a : Nat) : List (List Nat) := tailF (R 0).toNat (gb R) a []
noncomputable def L1 (R : Nat → Int) (a b : Nat) : List (List Nat) := @ite _ (stF R a 0) (Classical.propDecidable _) (tailF ((R 0).toNat - 1) (gb R) b (rw1 a)) []
noncomputable def L2 (R : Nat → Int) (a b c : Nat) : List (List Nat) := @ite _ (stF R a 0 ∧ stF R b 1) (Classical.propDecidable _) (tailF ((R 0).toNat - 2) (gb R) c (rw2 a b)) []
theorem gb_no {R : Nat → Int} {w : Nat} (h : ¬ goodF R w) : gb R w = false := by
  cases e : gb R w with
  | false => rfl
  | true => exact absurd (gb_iff.1 e) h
theorem L0_step {R : Nat → Int} (hR : okR R) {a : Nat} (ha : a ≤ 24) : L0 R a = L1 R a a ++ L0 R (a + 1) := by
  have bT := hR.T
  unfold L0 L1
  by_cases e : a = 24
  · subst e
    rw [tailF_24, tailF_25 (show 24 < 24 + 1 by omega), if_pos (show stF R 24 0 from Or.inl rfl), tailF_24]
    simp [rw1]
  · by_cases g : goodF R a
    · rw [if_pos (show stF R a 0 from Or.inr ⟨by omega, g⟩)]
      have q := tailF_y (m := (R 0).toNat - 1) (P := gb R) (b := a) (pre := []) (by omega) (gb_iff.2 g)
      rw [show (R 0).toNat - 1 + 1 = (R 0).toNat by omega] at q
      rw [q]
      simp [rw1, e]
    · rw [if_neg (show ¬ stF R a 0 by rintro (z | z); exact e z; exact g z.2), tailF_n (by omega) (Or.inl (gb_no g))]
      rfl
theorem L1_step {R : Nat → Int} (hR : okR R) {a b : Nat} (hab : a ≤ b) (hb : b ≤ 24) : L1 R a b = L2 R a b b ++ L1 R a (b + 1) := by
  have bT := hR.T
  unfold L1 L2
  by_cases sa : stF R a 0
  · rw [if_pos sa, if_pos sa]
    by_cases e : b = 24
    · subst e
      rw [tailF_24, tailF_25 (show 24 < 24 + 1 by omega), if_pos (show stF R a 0 ∧ stF R 24 1 from ⟨sa, Or.inl rfl⟩), tailF_24]
      by_cases ea : a = 24
      · simp [rw1, rw2, ea]
      · simp [rw1, rw2, ea]
    · by_cases g : 1 < R 0 ∧ goodF R b
      · rw [if_pos (show stF R a 0 ∧ stF R b 1 from ⟨sa, Or.inr g⟩)]
        have q := tailF_y (m := (R 0).toNat - 2) (P := gb R) (b := b) (pre := rw1 a) (by omega) (gb_iff.2 g.2)
        rw [show (R 0).toNat - 2 + 1 = (R 0).toNat - 1 by omega] at q
        rw [q]
        simp [rw1, rw2, e, show ¬ a = 24 by omega]
      · rw [if_neg (show ¬ (stF R a 0 ∧ stF R b 1) by rintro ⟨_, z | z⟩; exact e z; exact g z), tailF_n (by omega) ?_]
        · rfl
        · by_cases g1 : 1 < R 0
          · exact Or.inl (gb_no (fun z => g ⟨g1, z⟩))
          · right; omega
  · rw [if_neg sa, if_neg sa, if_neg (fun z => sa z.1)]; rfl
theorem L2_step {R : Nat → Int} (hR : okR R) {a b c : Nat} (hab : a ≤ b) (hbc : b ≤ c) (hc : c ≤ 24) : L2 R a b c = (@ite _ (stF R a 0 ∧ stF R b 1 ∧ stF R c 2) (Classical.propDecidable _) [rw3 a b c] []) ++ L2 R a b (c + 1) := by
  have bT := hR.T
  unfold L2
  by_cases sa : stF R a 0 ∧ stF R b 1
  · rw [if_pos sa, if_pos sa]
    by_cases e : c = 24
    · subst e
      rw [tailF_24, tailF_25 (show 24 < 24 + 1 by omega), if_pos (show stF R a 0 ∧ stF R b 1 ∧ stF R 24 2 from ⟨sa.1, sa.2, Or.inl rfl⟩)]
      by_cases ea : a = 24
      · simp [rw2, rw3, ea]
      · by_cases eb : b = 24
        · simp [rw2, rw3, ea, eb]
        · simp [rw2, rw3, ea, eb]
    · by_cases g : 2 < R 0 ∧ goodF R c
      · rw [if_pos (show stF R a 0 ∧ stF R b 1 ∧ stF R c 2 from ⟨sa.1, sa.2, Or.inr g⟩)]
        have q := tailF_y (m := (R 0).toNat - 3) (P := gb R) (b := c) (pre := rw2 a b) (by omega) (gb_iff.2 g.2)
        rw [show (R 0).toNat - 3 + 1 = (R 0).toNat - 2 by omega] at q
        rw [q, show (R 0).toNat - 3 = 0 by omega]
        have t0 : ∀ pre, tailF 0 (gb R) c pre = [pre] := fun pre => by unfold tailF; rw [if_pos (by omega)]; rfl
        rw [t0]
        simp [rw2, rw3, e, show ¬ a = 24 by omega, show ¬ b = 24 by omega]
      · rw [if_neg (show ¬ (stF R a 0 ∧ stF R b 1 ∧ stF R c 2) by rintro ⟨_, _, z | z⟩; exact e z; exact g z), tailF_n (by omega) ?_]
        · rfl
        · by_cases g1 : 2 < R 0
          · exact Or.inl (gb_no (fun z => g ⟨g1, z⟩))
          · right; omega
  · rw [if_neg sa, if_neg sa, if_neg (fun z => sa ⟨z.1, z.2.1⟩)]; rfl
