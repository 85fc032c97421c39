/-! ladders: the reference's -/
theorem r_layFar {μ : xM} {g : Int} {F : Nat → Int} {Q : xM → Prop} (h : iOpen μ) (g0 : 0 ≤ g) (g1 : g < μ 263 3) (hF : isDist (adjF (μ 263)) (μ 263 3).toNat g.toNat F) (hF2 : ∀ v : Nat, (v : Int) < μ 263 3 → F v < 24)
    (hq : ∀ ν, (∀ k, k ≠ 271 → ν k = μ k) → (∀ v : Nat, (v : Int) < μ 263 3 → ν 271 v = F v) → (∀ v : Nat, v < 24 → μ 263 3 ≤ v → ν 271 v = -1) → Q ν) : tX11_layFar g μ Q := by
  have bW := h.2.1.W
  intro _ _
  refine up1 (n := 24) (fun i ν => ν = fillM μ 271 i.toNat (-1)) (by omega) (fillM_zero μ 271 (-1)).symm ?_
  rintro i ν K i0 i1 rfl _ hK
  refine ⟨⟨by omega, by omega⟩, fun c => ⟨⟨g0, by omega⟩, wl fun _ => ?_⟩, fun c => ⟨⟨i0, by omega⟩, wl fun _ => hK _ (by omega) (by rw [fillM_succ, show (i + 1).toNat = i.toNat + 1 by omega])⟩⟩
  rw [show i.toNat = 24 by omega]
  refine up1 (n := 24) (fun d ν => (∀ k, k ≠ 271 → ν k = μ k) ∧ (∀ v : Nat, v < 24 → μ 263 3 ≤ v → ν 271 v = -1) ∧ ∀ v : Nat, (v : Int) < μ 263 3 → ν 271 v = if 0 ≤ F v ∧ F v ≤ d then F v else -1) (by omega) ⟨fun k hk => ?_, fun v hv hv2 => ?_, fun v hv => ?_⟩ ?_
  · funext j; simp [wi, fillM, hk]
  · rw [wi_place (by omega)]; simp [fillM, hv]
  · by_cases q : v = g.toNat
    · rw [q, wi_self, hF.1]; simp
    · rw [wi_place q]
      have : ¬ (0 ≤ F v ∧ F v ≤ 0) := fun z => q (hF.2.2.2.1 v (by omega) (by omega))
      rw [if_neg this]; simp [fillM]; omega
  rintro d ν K d0 d1 ⟨f1, f2, f3⟩ _ hK
  refine ⟨⟨by omega, by omega⟩, fun c => hq ν f1 (fun v hv => ?_) f2, fun c => ?_⟩
  · rw [f3 v hv]
    have a := hF.2.1 v (by omega)
    have b := hF2 v hv
    split
    · rfl
    · omega
  · refine up1 (n := μ 263 3) (fun w ω => (∀ k, k ≠ 271 → ω k = μ k) ∧ (∀ v : Nat, v < 24 → μ 263 3 ≤ v → ω 271 v = -1) ∧ ∀ v : Nat, (v : Int) < μ 263 3 → (0 ≤ F v ∧ F v ≤ d → ω 271 v = F v) ∧ (¬ (0 ≤ F v ∧ F v ≤ d + 1) → ω 271 v = -1) ∧ (F v = d + 1 → ω 271 v = d + 1 ∨ ω 271 v = -1) ∧ (F v = d + 1 → ∀ u : Nat, (u : Int) < w → F u = d → adjF (μ 263) u v → ω 271 v = d + 1)) (by omega) ⟨f1, f2, fun v hv => ?_⟩ ?_
    · rw [f3 v hv]
      refine ⟨fun z => if_pos z, fun z => if_neg (by omega), fun z => Or.inr (if_neg (by omega)), fun _ u z => by omega⟩
    · rintro w ω K2 w0 w1 ⟨g1', g2', g3'⟩ _ hK2
      have e3 : ω 263 = μ 263 := g1' 263 (by omega)
      rw [e3]
      refine ⟨⟨by omega, by omega⟩, fun e => hK _ (by omega) ⟨g1', g2', fun v hv => ?_⟩, fun e => ⟨⟨w0, by omega⟩, ⟨by omega, by omega⟩, fun f => ?_, fun f => hK2 _ (by omega) ⟨g1', g2', fun v hv => ?_⟩⟩⟩
      · have q := g3' v hv
        by_cases z : F v = d + 1
        · rw [if_pos (by omega)]
          obtain ⟨u, hu, a, b⟩ := hF.2.2.1 v (by omega) (by omega)
          rw [q.2.2.2 z u (by omega) (by omega) a]; omega
        · by_cases z2 : 0 ≤ F v ∧ F v ≤ d
          · rw [q.1 z2, if_pos (by omega)]
          · rw [q.2.1 (by omega), if_neg (by omega)]
      · have Fw : F w.toNat = d := by
          have q := g3' w.toNat (by omega)
          by_cases z2 : 0 ≤ F w.toNat ∧ F w.toNat ≤ d
          · rw [q.1 z2] at f; exact f
          · by_cases z : F w.toNat = d + 1
            · rcases q.2.2.1 z with y | y <;> omega
            · have := q.2.1 (by omega); omega
        refine up1 (n := μ 263 3) (fun v ξ => (∀ k, k ≠ 271 → ξ k = μ k) ∧ (∀ v : Nat, v < 24 → μ 263 3 ≤ v → ξ 271 v = -1) ∧ ∀ u : Nat, (u : Int) < μ 263 3 → (0 ≤ F u ∧ F u ≤ d → ξ 271 u = F u) ∧ (¬ (0 ≤ F u ∧ F u ≤ d + 1) → ξ 271 u = -1) ∧ (F u = d + 1 → ξ 271 u = d + 1 ∨ ξ 271 u = -1) ∧ (F u = d + 1 → ∀ x : Nat, ((x : Int) < w ∨ ((x : Int) = w ∧ (u : Int) < v)) → F x = d → adjF (μ 263) x u → ξ 271 u = d + 1)) (by omega) ⟨g1', g2', fun u hu => ⟨(g3' u hu).1, (g3' u hu).2.1, (g3' u hu).2.2.1, fun z x hx => (g3' u hu).2.2.2 z x (by omega)⟩⟩ ?_
        rintro v ξ K3 v0 v1 ⟨k1, k2, k3⟩ _ hK3
        have e3 : ξ 263 = μ 263 := k1 263 (by omega)
        have e7 : ξ 267 = μ 267 := k1 267 (by omega)
        have eb1 : v < μ 263 3 → μ 267 ((24 * w + v).toNat) = byF (μ 263) w.toNat v.toNat := fun z => by
          rw [← (h.2.2.2.2.2.1 w.toNat v.toNat (by omega) (by omega)).1]
          congr 1; omega
        have eb2 : v < μ 263 3 → μ 267 ((24 * v + w).toNat) = byF (μ 263) v.toNat w.toNat := fun z => by
          rw [← (h.2.2.2.2.2.1 v.toNat w.toNat (by omega) (by omega)).1]
          congr 1; omega
        rw [e3, e7]
        have skip : v < μ 263 3 → (F v.toNat = d + 1 → adjF (μ 263) w.toNat v.toNat → ξ 271 v.toNat = d + 1) → K3 (v + 1) ξ := by
          intro lt z
          refine hK3 _ lt ⟨k1, k2, fun u hu => ⟨(k3 u hu).1, (k3 u hu).2.1, (k3 u hu).2.2.1, fun y x hx y2 y3 => ?_⟩⟩
          by_cases q : u = v.toNat ∧ (x : Int) = w
          · have : x = w.toNat := by omega
            rw [q.1] at y y3 ⊢
            rw [this] at y3
            exact z y y3
          · exact (k3 u hu).2.2.2 y x (by omega) y2 y3
        have put : v < μ 263 3 → ¬ 0 ≤ ξ 271 v.toNat → adjF (μ 263) w.toNat v.toNat → K3 (v + 1) (wi ξ 271 v.toNat (d + 1)) := by
          intro lt ng a
          have q := hF.2.2.2.2 w.toNat v.toNat (by omega) (by omega) (by omega) a
          have kv := k3 v.toNat (by omega)
          have Fv : F v.toNat = d + 1 := by
            by_cases z : F v.toNat ≤ d
            · have := kv.1 ⟨q.1, z⟩; omega
            · omega
          refine hK3 _ lt ⟨fun k hk => by rw [← k1 k hk]; funext j; exact wi_cell hk, fun u hu hu2 => by rw [wi_place (by omega)]; exact k2 u hu hu2, fun u hu => ?_⟩
          by_cases y : u = v.toNat
          · subst y
            rw [wi_self]
            exact ⟨fun z => by omega, fun z => by omega, fun _ => Or.inl rfl, fun _ _ _ _ _ => rfl⟩
          · rw [wi_place y]
            exact ⟨(k3 u hu).1, (k3 u hu).2.1, (k3 u hu).2.2.1, fun y2 x hx => (k3 u hu).2.2.2 y2 x (by omega)⟩
        refine ⟨⟨by omega, by omega⟩, fun f2 => hK2 _ (by omega) ⟨k1, k2, fun u hu => ⟨(k3 u hu).1, (k3 u hu).2.1, (k3 u hu).2.2.1, fun y x hx => (k3 u hu).2.2.2 y x (by omega)⟩⟩, fun f2 => ⟨⟨v0, by omega⟩, fun p => skip (by omega) (fun y _ => ?_), fun p => ⟨⟨by omega, by omega⟩, fun p2 => ⟨⟨by omega, by omega⟩, wl fun _ => put (by omega) p (Or.inl ?_)⟩, fun p2 => ⟨⟨by omega, by omega⟩, fun p3 => skip (by omega) (fun _ a => ?_), fun p3 => ⟨⟨by omega, by omega⟩, wl fun _ => put (by omega) p (Or.inr ?_)⟩⟩⟩⟩⟩
        · rcases (k3 v.toNat (by omega)).2.2.1 y with z | z <;> omega
        · rw [eb1 (by omega)] at p2; exact p2
        · rw [eb1 (by omega)] at p2
          rw [eb2 (by omega)] at p3
          rcases a with a | a <;> omega
        · rw [eb2 (by omega)] at p3; omega
      · have q := g3' v hv
        refine ⟨q.1, q.2.1, q.2.2.1, fun y u hu y2 y3 => ?_⟩
        by_cases z : u = w.toNat
        · exfalso
          subst z
          have := (g3' w.toNat (by omega)).1 ⟨by omega, by omega⟩
          omega
        · exact q.2.2.2 y u (by omega) y2 y3
/-! the next rung: the least that is nearer -/
def isNx (R F : Nat → Int) (w v : Nat) : Prop := (v : Int) < R 3 ∧ adjF R w v ∧ F v = F w - 1 ∧ ∀ u : Nat, u < v → ¬ (adjF R w u ∧ F u = F w - 1)
theorem isNx_u {R F : Nat → Int} {w v u : Nat} (h : isNx R F w v) (h2 : isNx R F w u) : v = u := by
  rcases Nat.lt_trichotomy v u with q | q | q
  · exact absurd ⟨h.2.1, h.2.2.1⟩ (h2.2.2.2 v q)
  · exact q
  · exact absurd ⟨h2.2.1, h2.2.2.1⟩ (h.2.2.2 u q)
theorem adjF_sym {R : Nat → Int} {w v : Nat} (h : adjF R w v) : adjF R v w := h.symm
theorem isNx_ex {R F : Nat → Int} {g w : Nat} (hR : okR R) (hF : isDist (adjF R) (R 3).toNat g F) (hw : (w : Int) < R 3) (h : 0 < F w) : ∃ v, isNx R F w v := by
  obtain ⟨u, hu, a, e⟩ := hF.2.2.1 w (by omega) h
  have : ∀ n : Nat, (∃ u, u < n ∧ (u : Int) < R 3 ∧ adjF R w u ∧ F u = F w - 1) → ∃ v, isNx R F w v := by
    intro n
    induction n with
    | zero => rintro ⟨u, z, _⟩; omega
    | succ n ih =>
      rintro ⟨u, h1, h2, h3, h4⟩
      by_cases q : ∃ u, u < n ∧ (u : Int) < R 3 ∧ adjF R w u ∧ F u = F w - 1
      · exact ih q
      · refine ⟨u, h2, h3, h4, fun x hx y => q ⟨x, by omega, by omega, y.1, y.2⟩⟩
  exact this (u + 1) ⟨u, by omega, by omega, adjF_sym a, e⟩
/-- the words of a ladder -/
def isAt (R F : Nat → Int) (w : Nat) : Nat → Nat → Prop
  | 0, v => v = w
  | n + 1, v => ∃ u, isAt R F w n u ∧ isNx R F u v
theorem isAt_u {R F : Nat → Int} {w : Nat} : ∀ n v u, isAt R F w n v → isAt R F w n u → v = u := by
  intro n
  induction n with
  | zero => intro v u a b; exact a.trans b.symm
  | succ n ih =>
    rintro v u ⟨x, a, b⟩ ⟨y, c, d⟩
    have := ih x y a c
    subst this
    exact isNx_u b d
theorem s_nearer {μ : xM} {w : Int} {v : Nat} {Q : Int → xM → Prop} (h : iOpen μ) (w0 : 0 ≤ w) (w1 : w < μ 263 3) (hF : ∀ u : Nat, (u : Int) < μ 263 3 → -1 ≤ μ 209 u ∧ μ 209 u < 24) (hn : isNx (μ 263) (μ 209) w.toNat v) (hq : Q v μ) : tX3_nearer w μ Q := by
  have bW := h.2.1.W
  have e3 : μ 39 3 = μ 263 3 := h.2.2.1.1 3 (by omega)
  intro _ _
  refine rd1 (n := μ 263 3) (fun u => u ≤ v) (by omega) (by omega) ?_
  intro u K u0 u1 hP hK
  have fw := hF w.toNat (by omega)
  have hv := hn.1
  rw [e3]
  have stop : u ≤ v → u ≠ v → u < v := fun a b => by omega
  refine ⟨⟨by omega, by omega⟩, fun c => by omega, fun c => s_isRung h w0 (by omega) ⟨u0, by omega⟩ (fun a _ _ => ⟨fun z => absurd z (by decide), fun _ => s_farOf u0 (by omega) (fun _ _ => s_farOf w0 (by omega) (fun _ _ => ⟨⟨by omega, by omega⟩, fun d => hK (by omega) ?_, fun d => ?_⟩))⟩) (fun a _ _ => ⟨fun _ => hK (by omega) ?_, fun z => absurd z (by decide)⟩)⟩
  · rcases Int.lt_or_le u v with q | q
    · omega
    · exfalso
      have : u.toNat = v := by omega
      rw [this] at d
      exact d hn.2.2.1
  · rcases Int.lt_or_le u v with q | q
    · exact absurd ⟨a, d⟩ (hn.2.2.2 u.toNat (by omega))
    · rw [show u = v by omega]; exact hq
  · rcases Int.lt_or_le u v with q | q
    · omega
    · exfalso
      have : u.toNat = v := by omega
      rw [this] at a
      exact a hn.2.1
theorem s_after {μ : xM} {w n : Int} {g : Nat} {Q : Int → xM → Prop} (h : iOpen μ) (w0 : 0 ≤ w) (w1 : w < μ 263 3) (hd : isDist (adjF (μ 263)) (μ 263 3).toNat g (μ 209)) (hF : ∀ u : Nat, (u : Int) < μ 263 3 → μ 209 u < 24) (n0 : 0 ≤ n) (n1 : n ≤ μ 209 w.toNat)
    (hq : ∀ v : Nat, isAt (μ 263) (μ 209) w.toNat n.toNat v → Q v μ) : tX3_after w n μ Q := by
  have bW := h.2.1.W
  have fw := hF w.toNat (by omega)
  intro _ _ _
  refine rd2b (n := n) (fun k x => ∃ v : Nat, x = v ∧ (v : Int) < μ 263 3 ∧ isAt (μ 263) (μ 209) w.toNat k.toNat v ∧ μ 209 v = μ 209 w.toNat - k) n0 ⟨w.toNat, by omega, by omega, rfl, by omega⟩ ?_
  rintro k x K k0 k1 ⟨v, rfl, a, b, c⟩ hK
  have fin : k = n → Q v μ := fun e => hq v (by rw [← e]; exact b)
  refine ⟨⟨by omega, by omega⟩, fun d => ⟨⟨by omega, by omega⟩, fin (by omega)⟩, fun d => ⟨fun e => by omega, fun e => ⟨⟨by omega, by omega⟩, ?_⟩⟩⟩
  obtain ⟨u, hu⟩ := isNx_ex h.2.1 hd a (by omega)
  refine s_nearer h (by omega) (by omega) (fun u hu => ⟨hd.2.1 u (by omega), hF u hu⟩) (v := u) (by rw [Int.toNat_natCast]; exact hu) (fun _ _ => hK _ (by omega) ⟨u, rfl, hu.1, ?_, ?_⟩)
  · rw [show (k + 1).toNat = k.toNat + 1 by omega]; exact ⟨v, b, hu⟩
  · rw [hu.2.2.1]; omega
theorem r_pairWhy {μ : xM} {R : Nat → Int} {w v : Int} {Q : Int → xM → Prop} (h : iOpen μ) (e : μ 263 = R) (h1 : ¬ (wordF R w ∧ wordF R v) → Q 1 μ) (h5 : wordF R w → wordF R v → ¬ (goodI R w ∧ goodI R v) → Q 5 μ) (h0 : goodI R w → goodI R v → Q 0 μ) : tX11_pairWhy w v μ Q := by
  have b := h.2.1.W
  rw [e] at b
  intro _ _ _
  refine r_word h e (fun a _ _ => ⟨fun z => absurd z (by decide), fun _ => r_word h e (fun c _ _ => ⟨fun _ => r_good e a b.2 (fun d _ _ => ⟨fun z => absurd z (by decide), fun _ => r_good e c b.2 (fun f _ _ => ⟨fun z => absurd z (by decide), fun _ => h0 d f⟩) (fun f _ _ => ⟨fun _ => h5 a c (fun z => f z.2), fun z => absurd z (by decide)⟩)⟩) (fun d _ _ => ⟨fun _ => h5 a c (fun z => d z.1), fun z => absurd z (by decide)⟩), fun z => absurd z (by decide)⟩) (fun c _ _ => ⟨fun z => absurd z (by decide), fun _ => h1 (fun z => c z.2)⟩)⟩) (fun a _ _ => ⟨fun _ => h1 (fun z => a z.1), fun z => absurd z (by decide)⟩)
theorem far_fin {μ ν ω : xM} {a : Int} (hi : Inv μ) (ha : a ≠ 4) (f : ∀ k, k ≠ 209 → k ≠ 210 → ν k = μ k) (g : ∀ k, k ≠ 271 → ω k = tr ν a k) : Inv ω := by
  have s : sc1 μ ν := fun k hk => f k (by rintro rfl; exact hk (by unfold scrK; omega)) (by rintro rfl; exact hk (by unfold scrK; omega))
  exact Inv_scr (a := a) hi ((s.tr0 a).tt (fun k hk => g k (by rintro rfl; exact hk (by unfold scrK; omega)))) ha
theorem far_o {μ ν : xM} (h : iOpen μ) (f : ∀ k, k ≠ 209 → k ≠ 210 → ν k = μ k) : iOpen ν :=
  iOpen_a (sc1.a (fun k hk => f k (by rintro rfl; exact hk (by unfold scrK; omega)) (by rintro rfl; exact hk (by unfold scrK; omega)))) h
/-- ladder -/
theorem c_8 {sc : Int → Int} {i : Int} {μ : xM} (hi : Inv μ) : tl_8 sc i μ Inv := by
  obtain ⟨w, ew⟩ : ∃ w, w = sc (i + 1) := ⟨_, rfl⟩
  obtain ⟨v, ev⟩ : ∃ w, w = sc (i + 2) := ⟨_, rfl⟩
  unfold tl_8
  rw [← ew, ← ev]
  have hK : ∀ a, a ≠ 4 → Inv (tr μ a) := fun a => Inv_tr hi
  rcases hi.os with h | h
  · have bW := h.2.1.W
    have no1 : ¬ (wordF (μ 263) w ∧ wordF (μ 263) v) → tX11_ladder w v (wi μ 0 18 1) (fun r' ν => (xIn r') → xRan ν → ((-1 = r') ∧ (Inv ν))) := by
      intro q _ _ _
      exact s_good (fun _ => r_pairWhy (iOpen_m h _) (m_263 μ _) (fun _ _ _ => ⟨fun z => absurd z (by decide), fun _ => s_no (fun _ _ _ _ => ⟨rfl, K_no (hK 1 (by decide))⟩)⟩) (fun a b => absurd ⟨a, b⟩ q) (fun a b => absurd ⟨a.1, b.1⟩ q))
    have no5 : wordF (μ 263) w → wordF (μ 263) v → ¬ (goodI (μ 263) w ∧ goodI (μ 263) v) → tX11_ladder w v (wi μ 0 18 5) (fun r' ν => (xIn r') → xRan ν → ((-1 = r') ∧ (Inv ν))) := by
      intro q1 q2 q _ _ _
      exact s_good (fun _ => r_pairWhy (iOpen_m h _) (m_263 μ _) (fun z => absurd ⟨q1, q2⟩ z) (fun _ _ _ _ _ => ⟨fun z => absurd z (by decide), fun _ => s_no (fun _ _ _ _ => ⟨rfl, K_no (hK 5 (by decide))⟩)⟩) (fun a b => absurd ⟨a, b⟩ q))
    intro _ _ _
    refine k_word h (fun q1 _ _ => ⟨fun z => absurd z (by decide), fun _ => k_word h (fun q2 _ _ => ⟨fun _ => k_good h (fun g1 _ _ => ⟨fun z => absurd z (by decide), fun _ => k_good h (fun g2 _ _ => ⟨fun _ => s_measure h g2 (fun ν f d b _ => ?_), fun z => absurd z (by decide)⟩) (fun g2 _ _ => ⟨fun z => absurd z (by decide), fun _ => s_refused (fun _ _ _ _ => no5 q1 q2 (fun z => g2 z.2))⟩)⟩) (fun g1 _ _ => ⟨fun _ => s_refused (fun _ _ _ _ => no5 q1 q2 (fun z => g1 z.1)), fun z => absurd z (by decide)⟩), fun z => absurd z (by decide)⟩) (fun q2 _ _ => ⟨fun z => absurd z (by decide), fun _ => s_refused (fun _ _ _ _ => no1 (fun z => q2 z.2))⟩)⟩) (fun q1 _ _ => ⟨fun _ => s_refused (fun _ _ _ _ => no1 (fun z => q1 z.1)), fun z => absurd z (by decide)⟩)
    have w0 := q1.1; have w1 := q1.2; have v0 := q2.1; have v1 := q2.2
    have e3 : ν 263 = μ 263 := f 263 (by omega) (by omega)
    have ref : ∀ r, (0 ≤ ν 209 w.toNat → r = ν 209 w.toNat) → (¬ 0 ≤ ν 209 w.toNat → r = -2) → tX11_ladder w v (wi ν 0 18 0) (fun r' ω => (xIn r') → xRan ω → ((r = r') ∧ (Inv ω))) := by
      intro r r1 r2 _ _ _
      refine s_good (fun _ => r_pairWhy (iOpen_m (far_o h f) _) (R := μ 263) e3 (fun z => absurd ⟨q1, q2⟩ z) (fun _ _ z => absurd ⟨g1, g2⟩ z) (fun _ _ _ _ => ⟨fun _ => r_layFar (iOpen_m (far_o h f) _) v0 (show v < ν 263 3 by rw [e3]; exact v1) (F := ν 209) (show isDist (adjF (ν 263)) (ν 263 3).toNat v.toNat (ν 209) by rw [e3]; exact d) (fun u hu => b u (by have : (u : Int) < ν 263 3 := hu; rw [e3] at this; exact this)) (fun ω o1 o2 _ _ => ?_), fun z => absurd rfl z⟩))
      have o := o2 w.toNat (show (w.toNat : Int) < ν 263 3 by rw [e3]; omega)
      rw [o]
      exact ⟨⟨w0, by omega⟩, fun z _ _ => ⟨r1 z, far_fin (a := 0) hi (by decide) f o1⟩, fun z _ _ => ⟨r2 z, far_fin (a := 0) hi (by decide) f o1⟩⟩
    refine s_farOf w0 (by omega) (fun _ _ => ⟨fun z => s_granted (fun _ _ _ _ => ref _ (fun _ => rfl) (fun y => absurd z y)), fun z => s_granted (fun _ _ _ _ => ref _ (fun y => absurd y z) (fun _ => rfl))⟩)
  · intro _ _ _
    refine k_wordS h (fun _ _ => ⟨fun _ => s_refused (fun _ _ _ _ => ?_), fun z => absurd z (by decide)⟩)
    intro _ _ _
    refine s_good (fun _ => ?_)
    intro _ _ _
    exact r_wordS (iShut_m h _) (fun _ _ => ⟨fun _ _ _ => ⟨fun z => absurd z (by decide), fun _ => s_no (fun _ _ _ _ => ⟨rfl, K_no (hK 1 (by decide))⟩)⟩, fun z => absurd z (by decide)⟩)
