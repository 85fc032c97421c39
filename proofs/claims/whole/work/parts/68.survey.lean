/-! the class's surveys: judges -/
theorem s_keep {μ : xM} {o : Nat} {row : List Nat} {Q : xM → Prop} (h3 : row.length ≤ 3) (ch : chs o row μ) (hq : ∀ ω : xM, (∀ k, k ≠ o + 4 → ω k = μ k) → (∀ t, t < 3 → ω (o + 4) t = (row.getD t 24 : Nat)) → Q ω) : tX9_keep o row.length μ Q := by
  intro _ _
  refine up1 (n := 3) (fun i ν => (∀ k, k ≠ o + 4 → ν k = μ k) ∧ ∀ t : Nat, (t : Int) < i → ν (o + 4) t = (row.getD t 24 : Nat)) (by omega) ⟨fun _ _ => rfl, fun t ht => by omega⟩ ?_
  rintro i ν K i0 i1 ⟨a, b⟩ _ hK
  obtain ⟨n, rfl⟩ : ∃ n : Nat, i = n := ⟨i.toNat, by omega⟩
  rw [Int.toNat_natCast]
  have put : ∀ v : Int, v = (row.getD n 24 : Nat) → (n : Int) < 3 → K (n + 1) (wi ν (o + 4) n v) := by
    intro v hv n3
    refine hK _ n3 ⟨fun k hk => ?_, fun t ht => ?_⟩
    · rw [← a k hk]; funext j; exact wi_cell hk
    · by_cases q : t = n
      · subst q; rw [wi_self, hv]
      · rw [wi_place q]; exact b t (by omega)
  refine ⟨⟨by omega, by omega⟩, fun d => hq ν a (fun t ht => b t (by omega)), fun d => ⟨fun z => ⟨⟨by omega, by omega⟩, wl fun _ => put _ ?_ (by omega)⟩, fun z => ⟨⟨by omega, by omega⟩, wl fun _ => put _ ?_ (by omega)⟩⟩⟩
  · rw [getD_ge (by omega)]; rfl
  · rw [a (o + 3) (by omega)]; exact ch n (by omega)
def encP (o : Nat) (s : pS) (ν : xM) : Prop := ν o 1 = s.1 ∧ ν o 2 = s.2.1 ∧ ν o 3 = s.2.2.1 ∧ ν o 4 = s.2.2.2.1 ∧ ν o 16 = 0 ∧ ∀ t, t < 3 → ν (o + 4) t = (s.2.2.2.2.getD t 24 : Nat)
def encL (o : Nat) (s : lS) (ν : xM) : Prop := ν o 16 = s.1 ∧ ν o 5 = s.2.1 ∧ ∀ t, t < 3 → ν (o + 4) t = (s.2.2.getD t 24 : Nat)
theorem s_judgeP {o : Nat} {R : Nat → Int} {N : Int} {s : pS} {row : List Nat} {ν : xM} {Q : xM → Prop} (h3 : row.length ≤ 3) (he : encP o s ν) (hl : ν o 14 = lenL R row) (hv : ν o 17 = valL R row) (hN : ν o 13 = N) (ch : chs o row ν)
    (hq : ∀ ω : xM, encP o (judge1 R N s row) ω → jdS o ν ω → Q ω) : tX9_judgePlan o row.length ν (fun μ' => xRan μ' → Q μ') := by
  obtain ⟨a1, a2, a3, a4, a16, af⟩ := he
  obtain ⟨few, hf⟩ : ∃ f : Int, f = if lenL R row = N then min s.2.2.2.1 row.length else s.2.2.2.1 := ⟨_, rfl⟩
  have b38 : ∀ ξ : xM, (∀ k, k ≠ o → ξ k = ν k) → (∀ j, j ≠ 3 → j ≠ 4 → ξ o j = ν o j) → ξ o 3 = max s.2.2.1 (valL R row) → ξ o 4 = few → tX9_judgePlan_b38 o row.length ξ (fun μ' => xRan μ' → Q μ') := by
    intro ξ x1 x2 x3 x4 _
    have y1 : ξ o 1 = s.1 := by rw [x2 1 (by omega) (by omega)]; exact a1
    have y2 : ξ o 2 = s.2.1 := by rw [x2 2 (by omega) (by omega)]; exact a2
    have y14 : ξ o 14 = lenL R row := by rw [x2 14 (by omega) (by omega)]; exact hl
    have y17 : ξ o 17 = valL R row := by rw [x2 17 (by omega) (by omega)]; exact hv
    have y16 : ξ o 16 = 0 := by rw [x2 16 (by omega) (by omega)]; exact a16
    have yes : (lenL R row > s.1 ∨ (lenL R row = s.1 ∧ valL R row > s.2.1)) → ∀ A B : Int, A = lenL R row → B = valL R row → tX9_keep o row.length (wi (wi ξ o 1 A) o 2 B) (fun μ20 => xRan μ20 → xRan μ20 → Q μ20) := by
      intro c A B hA hB
      refine s_keep h3 (fun i hi => ?_) (fun ω w1 w2 _ _ => hq ω ?_ ⟨fun k p q => ?_, fun j p q => ?_⟩)
      · rw [wi_cell (by omega), wi_cell (by omega), x1 (o + 3) (by omega)]; exact ch i hi
      · unfold judge1
        rw [if_pos c]
        have wo := w1 o (by omega)
        refine ⟨?_, ?_, ?_, ?_, ?_, w2⟩
        · rw [wo, wi_place (by omega), wi_self]; exact hA
        · rw [wo, wi_self]; exact hB
        · rw [wo, wi_place (by omega), wi_place (by omega)]; exact x3
        · rw [wo, wi_place (by omega), wi_place (by omega), x4, hf]
        · rw [wo, wi_place (by omega), wi_place (by omega)]; exact y16
      · rw [w1 k q, ← x1 k p]; funext j; rw [wi_cell p, wi_cell p]
      · rw [w1 o (by omega), wi_place (by omega), wi_place (by omega)]; exact x2 j (by omega) (by omega)
    have noo : ¬ (lenL R row > s.1 ∨ (lenL R row = s.1 ∧ valL R row > s.2.1)) → xRan ξ → Q ξ := by
      intro c _
      refine hq ξ ?_ ⟨fun k p q => x1 k p, fun j p q => x2 j (by omega) (by omega)⟩
      unfold judge1
      rw [if_neg c]
      refine ⟨y1, y2, x3, by rw [x4, hf], y16, fun t ht => ?_⟩
      rw [x1 (o + 4) (by omega)]; exact af t ht
    rw [y1, y2, y14, y17]
    have e17 : ∀ A, wi ξ o 1 A o 17 = valL R row := fun A => by rw [wi_place (by omega)]; exact y17
    refine ⟨fun z => wl fun _ => wl fun _ => ?_, fun z => ⟨fun z2 => noo (by omega), fun z2 => ⟨fun z3 => noo (by omega), fun z3 => wl fun _ => wl fun _ => ?_⟩⟩⟩
    · exact yes (by omega) _ _ rfl (e17 _)
    · exact yes (by omega) _ _ rfl (e17 _)
  intro _ _
  refine wl fun _ => ?_
  have e14 : wi ν o 3 (max (ν o 3) (ν o 17)) o 14 = lenL R row := by rw [wi_place (by omega)]; exact hl
  have e13 : wi ν o 3 (max (ν o 3) (ν o 17)) o 13 = N := by rw [wi_place (by omega)]; exact hN
  have e4 : wi ν o 3 (max (ν o 3) (ν o 17)) o 4 = s.2.2.2.1 := by rw [wi_place (by omega)]; exact a4
  rw [e14, e13, e4]
  refine ⟨fun z => b38 _ (fun k hk => ?_) (fun j p q => ?_) ?_ ?_, fun z => wl fun _ => b38 _ (fun k hk => ?_) (fun j p q => ?_) ?_ ?_⟩
  · funext j; exact wi_cell hk
  · exact wi_place p
  · rw [wi_self, a3, hv]
  · rw [e4, hf, if_neg z]
  · funext j; rw [wi_cell hk, wi_cell hk]
  · rw [wi_place q, wi_place p]
  · rw [wi_place (by omega), wi_self, a3, hv]
  · rw [wi_self, hf, if_pos z]
theorem s_judgeL {o : Nat} {R : Nat → Int} {H : Int → Int} {N : Int} {s : lS} {row : List Nat} {ν : xM} {Q : xM → Prop} (hR : okR R) (hH : ∀ c : Nat, c < 26 → 0 ≤ H c ∧ H c ≤ 100) (hS : sumN (fun c => H c) 26 = N) (h3 : row.length ≤ 3) (hw : rowW R row) (he : encL o s ν) (hl : ν o 14 = lenL R row) (hv : ν o 15 = ovS H (needL R row)) (hN : ν o 13 = N) (ch : chs o row ν)
    (hq : ∀ ω : xM, encL o (lackJ R H N s row) ω → jdS o ν ω → Q ω) : tX9_judgeLack o row.length ν (fun μ' => xRan μ' → Q μ') := by
  obtain ⟨a16, a5, af⟩ := he
  have fo := fillF_ov hR (H := H) hw hS
  have lr := lenL_rng hR row hw
  have on := ovS_nn (H := H) (nd := needL R row)
  have ob := ovS_bd (H := H) (nd := needL R row) (d := 20) (fun c hc => by have := needL_rng hR c row hw; have := hH c hc; omega) (by omega)
  have noo : ¬ (fillF R H row ∧ lenL R row - N ≤ s.1) → xRan ν → Q ν := by
    intro c _
    refine hq ν ?_ ⟨fun _ _ _ => rfl, fun _ _ _ => rfl⟩
    unfold lackJ
    rw [if_neg c]
    exact ⟨a16, a5, af⟩
  intro _ _
  rw [hl, hv, hN, a16]
  refine ⟨⟨by omega, by omega⟩, fun z => noo (fun c => z (fo.1 c.1)), fun z => ⟨fun z2 => noo (fun c => by have := c.2; omega), fun z2 => wl fun _ => ?_⟩⟩
  have e15 : wi ν o 5 (ovS H (needL R row)) o 15 = ovS H (needL R row) := by rw [wi_place (by omega)]; exact hv
  rw [e15]
  refine ⟨⟨by omega, by omega⟩, wl fun _ => s_keep h3 (fun i hi => ?_) (fun ω w1 w2 _ _ => hq ω ?_ ⟨fun k p q => ?_, fun j p q => ?_⟩)⟩
  · rw [wi_cell (by omega), wi_cell (by omega)]; exact ch i hi
  · unfold lackJ
    rw [if_pos ⟨fo.2 z, by omega⟩]
    have wo := w1 o (by omega)
    refine ⟨?_, ?_, w2⟩
    · rw [wo, wi_self]; simp only; omega
    · rw [wo, wi_place (by omega), wi_self]; simp only; omega
  · rw [w1 k q]; funext j; rw [wi_cell p, wi_cell p]
  · rw [w1 o (by omega), wi_place (by omega), wi_place (by omega)]
/-! what surveys find -/
def inS (o k : Nat) : Prop := k = o ∨ k = o + 1 ∨ k = o + 3 ∨ k = o + 4
def srv (o : Nat) (R : Nat → Int) (H : Int → Int) (N : Int) (l : List Nat) (μ : xM) : Prop := (∀ c : Nat, c < 26 → μ (o + 1) c = H c) ∧ μ o 12 = l.length ∧ μ o 13 = N ∧ μ o 14 = 0 ∧ μ o 15 = 0 ∧ μ o 17 = 0 ∧ (∀ t, t < 3 → μ (o + 4) t = 24) ∧ (∀ i, (hi : i < l.length) → μ (o + 2) i = (l[i] : Nat))
theorem ovS_nil {R : Nat → Int} {H : Int → Int} (hH : ∀ c : Nat, c < 26 → 0 ≤ H c ∧ H c ≤ 100) : ovS H (needL R []) = 0 := by
  have a := ovS_nn (H := H) (nd := needL R [])
  have b := (ovS_zero (H := H) (nd := needL R [])).2 (fun c hc => by have := hH c hc; simp [needL]; omega)
  omega
theorem need_ext {R : Nat → Int} (hR : okR R) {H : Int → Int} {row ext : List Nat} (hx : rowW R ext) : ovS H (needL R row) ≤ ovS H (needL R (row ++ ext)) := ovS_mono (fun c _ => by rw [needL_app]; have := needL_rng hR c ext hx; omega)
theorem svB_nil {o : Nat} {R : Nat → Int} {H : Int → Int} {N md : Int} {l : List Nat} {μ ν : xM} (hH : ∀ c : Nat, c < 26 → 0 ≤ H c ∧ H c ≤ 100) (s : srv o R H N l μ) (h1 : ∀ k, k ≠ o → ν k = μ k) (h2 : ∀ j, 12 ≤ j → j ≠ 16 → ν o j = μ o j) (h3 : ν o 11 = md) : svB o R H N l md μ [] ν := by
  obtain ⟨a, b, c, d, e, f, _, _⟩ := s
  refine ⟨fun k x _ _ _ => h1 k x, fun x hx => ?_, ?_, ?_, ?_, h3, ?_, ?_⟩
  · rw [h1 (o + 1) (by omega), a x hx]; simp [needL]
  · rw [h2 14 (by omega) (by omega), d]; simp [lenL]
  · rw [h2 15 (by omega) (by omega), e, ovS_nil hH]
  · rw [h2 17 (by omega) (by omega), f]; simp [valL]
  · rw [h2 12 (by omega) (by omega), b]
  · rw [h2 13 (by omega) (by omega), c]
theorem s_findPlans {o : Nat} {R : Nat → Int} {H : Int → Int} {N : Int} {l : List Nat} {μ : xM} {Q : xM → Prop} (ho : 211 ≤ o ∧ o ≤ 226) (h : iOpW μ) (eR : μ 263 = R) (hH : ∀ c : Nat, c < 26 → 0 ≤ H c ∧ H c ≤ 100) (hl : ∀ w ∈ l, (w : Int) < R 3) (hl2 : l.length ≤ 24) (s : srv o R H N l μ)
    (hq : ∀ ω : xM, (∀ k, ¬ inS o k → ω k = μ k) → ω o 1 = (planF R H N l).1 → ω o 2 = (planF R H N l).2.1 → ω o 3 = (planF R H N l).2.2.1 → ω o 4 = (planF R H N l).2.2.2.1 → (∀ t, t < 3 → ω (o + 4) t = ((planF R H N l).2.2.2.2.getD t 24 : Nat)) → ω o 0 = 1 → Q ω) : tX9_findPlans o μ Q := by
  have hR : okR R := by rw [← eR]; exact h.2.1
  have bT := hR.T
  intro _
  refine wl fun _ => wl fun _ => wl fun _ => wl fun _ => wl fun _ => wl fun _ => ?_
  have hN := s.2.2.1
  refine s_spread (J := judgeF R H N) (enc := encP o) (lim := fun _ => 0) (G := fun row => ovS H (needL R row) ≤ 0) (N := N) (md := 0) ho h eR hH hl hl2 s.2.2.2.2.2.2.2 (fun s ν e => e.2.2.2.2.1) ?_ (fun s row z => by omega) ?_ ?_ (R 0).toNat 6 (by omega) [] 0 (-1, -1, 0, 4, []) _ _ (by simp) (fun w hw => by simp at hw) (by rw [ovS_nil hH]; omega) (by omega) ?_ (svB_nil hH s (fun k hk => ?_) (fun j p q => ?_) ?_) (fun i hi => by simp at hi) (fun ω e sv ch _ => wl fun _ => hq _ (fun k hk => ?_) ?_ ?_ ?_ ?_ ?_ (wi_self _ _ _ _))
  · rintro s ν ω ⟨b1, b2, b3, b4, b5, b6⟩ e1 e2
    refine ⟨?_, ?_, ?_, ?_, ?_, fun t ht => ?_⟩
    · rw [e2 1 (by omega)]; exact b1
    · rw [e2 2 (by omega)]; exact b2
    · rw [e2 3 (by omega)]; exact b3
    · rw [e2 4 (by omega)]; exact b4
    · rw [e2 16 (by omega)]; exact b5
    · rw [e1]; exact b6 t ht
  · intro s row ext _ hx z
    have := need_ext hR (H := H) (row := row) hx
    unfold judgeF
    rw [if_neg]
    rw [fitF_ov]; omega
  · intro s row ν Q g3 r3 rw1 e sv ch hq2
    refine ⟨fun _ => s_judgeP r3 e sv.2.2.1 sv.2.2.2.2.1 sv.2.2.2.2.2.2.2 ch (fun ω ew jd => hq2 ω ?_ jd), fun z => absurd sv.2.2.2.2.2.1 z⟩
    unfold judgeF
    rw [if_pos (fitF_ov.2 g3)]
    exact ew
  · refine ⟨?_, ?_, ?_, ?_, ?_, fun t ht => ?_⟩
    · rw [wi_place (by omega), wi_place (by omega), wi_place (by omega), wi_self]
    · rw [wi_place (by omega), wi_place (by omega), wi_self]
    · rw [wi_place (by omega), wi_self]
    · rw [wi_self]
    · rw [wi_place (by omega), wi_place (by omega), wi_place (by omega), wi_place (by omega), wi_self]
    · rw [wi_cell (by omega), wi_cell (by omega), wi_cell (by omega), wi_cell (by omega), wi_cell (by omega), wi_cell (by omega), s.2.2.2.2.2.2.1 t ht]
      simp
  · funext j; rw [wi_cell hk, wi_cell hk, wi_cell hk, wi_cell hk, wi_cell hk, wi_cell hk]
  · rw [wi_place (by omega), wi_place (by omega), wi_place (by omega), wi_place (by omega), wi_place (by omega), wi_place (by omega)]
  · rw [wi_place (by omega), wi_place (by omega), wi_place (by omega), wi_place (by omega), wi_place (by omega), wi_self]
  · have : k ≠ o ∧ k ≠ o + 1 ∧ k ≠ o + 3 ∧ k ≠ o + 4 := by unfold inS at hk; omega
    rw [← sv.1 k this.1 this.2.1 this.2.2.1 this.2.2.2]; funext j; exact wi_cell this.1
  · rw [wi_place (by omega)]; exact e.1
  · rw [wi_place (by omega)]; exact e.2.1
  · rw [wi_place (by omega)]; exact e.2.2.1
  · rw [wi_place (by omega)]; exact e.2.2.2.1
  · intro t ht
    rw [wi_cell (by omega)]; exact e.2.2.2.2.2 t ht
