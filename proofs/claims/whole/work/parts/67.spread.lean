/-! the class's surveys: rows in their order -/
def chs (o : Nat) (row : List Nat) (ν : xM) : Prop := ∀ i, i < row.length → ν (o + 3) i = (row.getD i 24 : Nat)
theorem getD_lt {row : List Nat} {w i : Nat} (h : i < row.length) : (row ++ [w]).getD i 24 = row.getD i 24 := by
  simp only [List.getD_eq_getElem?_getD, List.getElem?_append_left h]
theorem getD_eq {row : List Nat} {w : Nat} : (row ++ [w]).getD row.length 24 = w := by
  simp [List.getD_eq_getElem?_getD]
theorem getD_ge {row : List Nat} {i : Nat} (h : row.length ≤ i) : row.getD i 24 = 24 := by
  simp [List.getD_eq_getElem?_getD, List.getElem?_eq_none h]
def svB (o : Nat) (R : Nat → Int) (H : Int → Int) (N : Int) (l : List Nat) (md : Int) (μ : xM) (row : List Nat) (ν : xM) : Prop :=
  (∀ k, k ≠ o → k ≠ o + 1 → k ≠ o + 3 → k ≠ o + 4 → ν k = μ k) ∧ (∀ c : Nat, c < 26 → ν (o + 1) c = H c - needL R row c) ∧ ν o 14 = lenL R row ∧ ν o 15 = ovS H (needL R row) ∧ ν o 17 = valL R row ∧ ν o 11 = md ∧ ν o 12 = l.length ∧ ν o 13 = N
def jdS (o : Nat) (ν ω : xM) : Prop := (∀ k, k ≠ o → k ≠ o + 4 → ω k = ν k) ∧ (∀ j, 11 ≤ j → j ≠ 16 → ω o j = ν o j)
theorem svB.jd {o : Nat} {R : Nat → Int} {H : Int → Int} {N md : Int} {l row : List Nat} {μ ν ω : xM} (h : svB o R H N l md μ row ν) (j : jdS o ν ω) : svB o R H N l md μ row ω := by
  obtain ⟨a, b, c, d, e, f, g, i⟩ := h
  refine ⟨fun k x y z w => (j.1 k x w).trans (a k x y z w), fun c hc => ?_, ?_, ?_, ?_, ?_, ?_, ?_⟩
  · rw [j.1 (o + 1) (by omega) (by omega)]; exact b c hc
  · rw [j.2 14 (by omega) (by omega)]; exact c
  · rw [j.2 15 (by omega) (by omega)]; exact d
  · rw [j.2 17 (by omega) (by omega)]; exact e
  · rw [j.2 11 (by omega) (by omega)]; exact f
  · rw [j.2 12 (by omega) (by omega)]; exact g
  · rw [j.2 13 (by omega) (by omega)]; exact i
theorem chs.jd {o : Nat} {row : List Nat} {ν ω : xM} (h : chs o row ν) (j : jdS o ν ω) : chs o row ω := by
  intro i hi
  rw [j.1 (o + 3) (by omega) (by omega)]; exact h i hi
def tJd (o : Nat) (d : Int) (ν : xM) (Q : xM → Prop) : Prop := ((ν o 11) = 0 → tX9_judgePlan o d ν (fun μ' => xRan μ' → Q μ')) ∧ (¬ (ν o 11) = 0 → tX9_judgeLack o d ν (fun μ' => xRan μ' → Q μ'))
theorem rowW_snoc {R : Nat → Int} {row : List Nat} {w : Nat} (h : rowW R row) (hw : (w : Int) < R 3) : rowW R (row ++ [w]) := by
  intro v hv
  rcases List.mem_append.1 hv with q | q
  · exact h v q
  · rw [List.mem_singleton.1 q]; exact hw
theorem s_spread {σ : Type} {J : σ → List Nat → σ} {enc : σ → xM → Prop} {lim : σ → Int} {G : List Nat → Prop} {o : Nat} {R : Nat → Int} {H : Int → Int} {N md : Int} {l : List Nat} {μ : xM} (ho : 211 ≤ o ∧ o ≤ 226) (h : iOpW μ) (eR : μ 263 = R) (hH : ∀ c : Nat, c < 26 → 0 ≤ H c ∧ H c ≤ 100)
    (hl : ∀ w ∈ l, (w : Int) < R 3) (hl2 : l.length ≤ 24) (hp : ∀ i, (hi : i < l.length) → μ (o + 2) i = (l[i] : Nat))
    (hL : ∀ s ν, enc s ν → ν o 16 = lim s) (hE : ∀ s ν ω, enc s ν → ω (o + 4) = ν (o + 4) → (∀ j, j < 6 ∨ j = 16 → ω o j = ν o j) → enc s ω)
    (hG : ∀ s row, ¬ lim s < ovS H (needL R row) → G row) (hP : ∀ s row ext, rowW R row → rowW R ext → lim s < ovS H (needL R row) → J s (row ++ ext) = s)
    (hJ : ∀ s row ν Q, G row → row.length ≤ 3 → rowW R row → enc s ν → svB o R H N l md μ row ν → chs o row ν → (∀ ω, enc (J s row) ω → jdS o ν ω → Q ω) → tJd o row.length ν Q) :
    ∀ (n fuel : Nat), n < fuel → ∀ (row : List Nat) (fr : Nat) (s : σ) (ν : xM) (Q : xM → Prop), row.length + n = (R 0).toNat → rowW R row → G row → fr ≤ l.length → enc s ν → svB o R H N l md μ row ν → chs o row ν → (∀ ω, enc ((spreadF n (l.drop fr) row).foldl J s) ω → svB o R H N l md μ row ω → chs o row ω → Q ω) → tX9_spread fuel o row.length fr ν Q := by
  have hR : okR R := by rw [← eR]; exact h.2.1
  have bT := hR.T
  have bW := hR.W
  have e390 : ∀ row ν, svB o R H N l md μ row ν → ν 39 0 = R 0 := fun row ν sv => by
    rw [sv.1 39 (by omega) (by omega) (by omega) (by omega), h.2.2.1.1 0 (by omega), eR]
  intro n
  induction n with
  | zero =>
    intro fuel hf row fr s ν Q hn hw hg hfr he sv ch hq
    obtain ⟨m, rfl⟩ : ∃ m, fuel = m + 1 := ⟨fuel - 1, by omega⟩
    have jd : tJd o row.length ν Q := hJ s row ν Q hg (by omega) hw he sv ch (fun ω e j => hq ω e (sv.jd j) (ch.jd j))
    have e0 := e390 row ν sv
    intro _ _ _
    exact ⟨fun z => absurd z (by omega), fun _ => ⟨fun _ => jd, fun z => absurd (show ν 39 0 ≤ (row.length : Int) by omega) z⟩⟩
  | succ n ihn =>
    intro fuel hf row fr s ν Q hn hw hg hfr he sv ch hq
    obtain ⟨m, rfl⟩ : ∃ m, fuel = m + 1 := ⟨fuel - 1, by omega⟩
    have e0 := e390 row ν sv
    intro _ _ _
    refine ⟨fun z => absurd z (by omega), fun _ => ⟨fun z => absurd z (by omega), fun _ => ⟨fun z => absurd z (by omega), fun _ => ?_⟩⟩⟩
    rw [show max (fr : Int) 0 = fr by omega]
    refine up1 (n := (l.length : Int)) (fun p ξ => ∃ s', enc s' ξ ∧ svB o R H N l md μ row ξ ∧ chs o row ξ ∧ (spreadT (fun t p => spreadF n t (row ++ [p])) (l.drop p.toNat)).foldl J s' = (spreadT (fun t p => spreadF n t (row ++ [p])) (l.drop fr)).foldl J s) (by omega) ⟨s, he, sv, ch, by rw [Int.toNat_natCast]⟩ ?_
    rintro p ξ K p0 p1 ⟨s', he', sv', ch', hs⟩ _ hK
    obtain ⟨p, rfl⟩ : ∃ q : Nat, p = q := ⟨p.toNat, by omega⟩
    rw [Int.toNat_natCast] at hs
    have e12 : ξ o 12 = l.length := sv'.2.2.2.2.2.2.1
    rw [e12]
    refine ⟨⟨by omega, by omega⟩, fun d => ?_, fun d => ⟨fun z => absurd z (by omega), fun _ => ⟨⟨by omega, by omega⟩, ⟨by omega, by omega⟩, wl fun _ => ?_⟩⟩⟩
    · have jd : tJd o row.length ξ Q := hJ s' row ξ Q hg (by omega) hw he' sv' ch' (fun ω e j => hq ω ?_ (sv'.jd j) (ch'.jd j))
      · exact jd
      · rw [List.drop_of_length_le (by omega)] at hs
        simp only [spreadT, List.foldl_nil] at hs
        simp only [spreadF, List.foldl_append, List.foldl_cons, List.foldl_nil]
        rw [← hs]; exact e
    · have pl : p < l.length := by omega
      obtain ⟨w, ew⟩ : ∃ w, w = l[p] := ⟨_, rfl⟩
      have ww : (w : Int) < R 3 := by rw [ew]; exact hl _ (List.getElem_mem pl)
      have xp : ξ (o + 2) (p : Int).toNat = w := by
        rw [Int.toNat_natCast, sv'.1 (o + 2) (by omega) (by omega) (by omega) (by omega), hp p pl, ew]
      rw [xp, Int.toNat_natCast]
      obtain ⟨ξ1, e1⟩ : ∃ ξ1, ξ1 = wi ξ (o + 3) row.length w := ⟨_, rfl⟩
      rw [← e1]
      have c1 : ∀ k, k ≠ o + 3 → ξ1 k = ξ k := fun k hk => by rw [e1]; funext j; exact wi_cell hk
      have x13 : ξ1 263 = R := by rw [c1 263 (by omega), sv'.1 263 (by omega) (by omega) (by omega) (by omega), eR]
      have o1 : iOpW ξ1 := by
        refine iOpW_c (μ := μ) ?_ (fun k hk => ?_) h
        · rw [c1 260 (by omega), sv'.1 260 (by omega) (by omega) (by omega) (by omega)]
        · rw [c1 k (by omega), sv'.1 k (by omega) (by omega) (by omega) (by omega)]
      have x12 : ξ1 (o + 2) (p : Int).toNat = w := by rw [c1 (o + 2) (by omega)]; exact xp
      rw [Int.toNat_natCast] at x12
      have e116 : enc s' ξ1 := hE s' ξ ξ1 he' (c1 (o + 4) (by omega)) (fun j _ => by rw [c1 o (by omega)])
      have ch1 : chs o (row ++ [w]) ξ1 := by
        intro i hi
        rw [List.length_append, List.length_singleton] at hi
        rw [e1]
        by_cases q : i = row.length
        · subst q; rw [wi_self, getD_eq]
        · rw [wi_place q, getD_lt (by omega)]; exact ch' i (by omega)
      have nr : ∀ c : Nat, c < 26 → 0 ≤ needL R row c ∧ needL R row c ≤ 100 := fun c _ => by
        have := needL_rng hR c row hw
        omega
      have lr := lenL_rng hR row hw
      have vr := valL_rng hR row hw
      have wln := hR.len ww
      have wvl := hR.val ww
      have dw : domF R w := Or.inl ww
      have lnw : lnF R w = R (7 + w) := by unfold lnF; rw [if_neg (by omega)]
      have vlw : vlF R w = R (175 + w) := by unfold vlF; rw [if_neg (by omega)]
      have b1 := c1 (o + 1) (by omega)
      have bo := c1 o (by omega)
      rw [Int.toNat_natCast, x12]
      refine s_take (H := H) (nd := needL R row) ho o1 (by rw [x13]; exact dw) hH nr (fun c hc => by rw [b1]; exact sv'.2.1 c hc) (by rw [bo, sv'.2.2.1]; omega) (by rw [bo]; exact sv'.2.2.2.1) (by rw [bo, sv'.2.2.2.2.1]; omega) (fun ω1 t1 t2 t3 t4 t5 _ => ?_)
      rw [x13] at t2 t3 t4 t5
      have sv1 : svB o R H N l md μ (row ++ [w]) ω1 := by
        obtain ⟨a, b, c, d, e, f, g, i⟩ := sv'
        refine ⟨fun k x y z v => ?_, fun c hc => ?_, ?_, ?_, ?_, ?_, ?_, ?_⟩
        · rw [t1.1 k x y, c1 k z]; exact a k x y z v
        · rw [t2 c hc, needL_snoc]
        · rw [t3, bo, c, lenL_snoc, lnw]
        · rw [t4]; exact ovS_c (fun c hc => needL_snoc.symm)
        · rw [t5, bo, e, valL_snoc, vlw]
        · rw [t1.2 11 (by omega) (by omega) (by omega), bo]; exact f
        · rw [t1.2 12 (by omega) (by omega) (by omega), bo]; exact g
        · rw [t1.2 13 (by omega) (by omega) (by omega), bo]; exact i
      have ch2 : chs o (row ++ [w]) ω1 := by
        intro i hi
        rw [t1.1 (o + 3) (by omega) (by omega)]; exact ch1 i hi
      have en1 : enc s' ω1 := hE s' ξ1 ω1 e116 (t1.1 (o + 4) (by omega) (by omega)) (fun j hj => t1.2 j (by omega) (by omega) (by omega))
      have dp : l.drop p = w :: l.drop (p + 1) := by rw [ew]; exact List.drop_eq_getElem_cons pl
      have hw1 := rowW_snoc hw ww
      have give : ∀ (s'' : σ) (ω2 : xM), enc s'' ω2 → svB o R H N l md μ (row ++ [w]) ω2 → chs o (row ++ [w]) ω2 → s'' = (spreadF n (l.drop p) (row ++ [w])).foldl J s' → tX9_giveBack o (ω2 (o + 2) p) ω2 (fun μ61 => xRan μ61 → K (p + 1) μ61) := by
        intro s'' ω2 en2 sv2 ch3 es
        have y3 : ω2 263 = R := by rw [sv2.1 263 (by omega) (by omega) (by omega) (by omega), eR]
        have o2 : iOpW ω2 := by
          refine iOpW_c (μ := μ) ?_ (fun k hk => ?_) h
          · rw [sv2.1 260 (by omega) (by omega) (by omega) (by omega)]
          · rw [sv2.1 k (by omega) (by omega) (by omega) (by omega)]
        have y2 : ω2 (o + 2) p = w := by rw [sv2.1 (o + 2) (by omega) (by omega) (by omega) (by omega), hp p pl, ew]
        rw [y2]
        have q14 := sv2.2.2.1
        have q17 := sv2.2.2.2.2.1
        rw [lenL_snoc] at q14
        rw [valL_snoc] at q17
        refine s_give (H := H) (nd := needL R row) ho o2 (by rw [y3]; exact dw) hH nr (fun c hc => by rw [sv2.2.1 c hc, needL_snoc, y3]) (by omega) (by rw [sv2.2.2.2.1, y3]; exact ovS_c (fun c hc => needL_snoc)) (by omega) (fun ω3 u1 u2 u3 u4 u5 _ => hK ω3 (by omega) ?_)
        rw [y3] at u3 u5
        refine ⟨s'', hE s'' ω2 ω3 en2 (u1.1 (o + 4) (by omega) (by omega)) (fun j hj => u1.2 j (by omega) (by omega) (by omega)), ?_, ?_, ?_⟩
        · obtain ⟨a, b, c, d, e, f, g, i⟩ := sv2
          refine ⟨fun k x y z v => ?_, u2, ?_, u4, ?_, ?_, ?_, ?_⟩
          · rw [u1.1 k x y]; exact a k x y z v
          · rw [u3, q14, lnw]; omega
          · rw [u5, q17, vlw]; omega
          · rw [u1.2 11 (by omega) (by omega) (by omega)]; exact f
          · rw [u1.2 12 (by omega) (by omega) (by omega)]; exact g
          · rw [u1.2 13 (by omega) (by omega) (by omega)]; exact i
        · intro i hi
          rw [u1.1 (o + 3) (by omega) (by omega), ch3 i (by simp; omega), getD_lt hi]
        · rw [show ((p : Int) + 1).toNat = p + 1 by omega, ← hs, dp]
          simp only [spreadT, List.foldl_append]
          rw [es, dp]
      have l16 := hL s' ω1 en1
      rw [l16, sv1.2.2.2.1]
      refine ⟨fun z => give s' ω1 en1 sv1 ch2 (foldl_id _ (fun r hr => ?_)).symm, fun z => ⟨⟨by omega, by omega⟩, ?_⟩⟩
      · obtain ⟨ext, x1, x2, _⟩ := spreadF_mem _ _ _ _ hr
        rw [x1]
        exact hP s' (row ++ [w]) ext hw1 (fun v hv => hl v (List.mem_of_mem_drop (x2 v hv))) z
      · rw [show (row.length : Int) + 1 = ((row ++ [w]).length : Nat) by simp]
        exact ihn m (by omega) (row ++ [w]) p s' ω1 _ (by simp; omega) hw1 (hG s' _ z) (by omega) en1 sv1 ch2 (fun ω2 en2 sv2 ch3 _ => give _ ω2 en2 sv2 ch3 rfl)
