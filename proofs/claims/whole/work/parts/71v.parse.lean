/-! the class reads the house's line -/
theorem oC_bd {T : Nat → Int} {n p : Nat} {o : pO} {f : Int} {μ ω : xM} (e : o = bd f p) (h : flC f p μ ω) : oC T n μ o 0 ω := by rw [e]; exact ⟨rfl, h⟩
theorem oC_ok {T : Nat → Int} {n a : Nat} {o : pO} {X : Nat → Int} {μ ω : xM} (e : o = okk X a) (h : gD μ ω) (c : cD T n X ω) (t : tC T n a ω) : oC T n μ o 1 ω := by rw [e]; exact ⟨rfl, h, c, t⟩
theorem tC.w {T : Nat → Int} {n a : Nat} {ν : xM} (t : tC T n a ν) {k j : Nat} {v : Int} (h : k ≠ 36 ∧ (k ≠ 35 ∨ ¬ (9 ≤ j ∧ j ≤ 12))) : tC T n a (wi ν k j v) := by
  have f : ∀ i, 9 ≤ i ∧ i ≤ 12 → wi ν k j v 35 i = ν 35 i := fun i hi => by
    by_cases q : k = 35
    · rw [q]; exact wi_place (by omega)
    · exact wi_cell (by omega)
  obtain ⟨tp, an, e1, e2, e0⟩ := t
  exact ⟨⟨tp.1, by rw [f 9 (by omega)]; exact tp.2.1, fun i hi => by rw [wi_cell (by omega)]; exact tp.2.2.1 i hi, tp.2.2.2⟩, an, by rw [f 11 (by omega)]; exact e1, by rw [f 12 (by omega)]; exact e2, by rw [f 10 (by omega)]; exact e0⟩
theorem gD.w {μ ν : xM} (g : gD μ ν) {k j : Nat} {v : Int} (h : (1 ≤ k ∧ k ≤ 34 ∧ (k = 30 → v = 0 ∨ v = 1)) ∨ k = 37 ∨ k = 38 ∨ (k = 35 ∧ (j = 7 ∨ j = 8 ∨ j = 13))) : gD μ (wi ν k j v) := by
  have f : ∀ i, i ≠ 7 → i ≠ 8 → i ≠ 13 → wi ν k j v 35 i = ν 35 i := fun i h1 h2 h3 => by
    by_cases q : k = 35
    · rw [q]; exact wi_place (by omega)
    · exact wi_cell (by omega)
  refine ⟨⟨fun i hi => ?_, ?_, fun z w hw => ?_⟩, ?_, ?_, ?_⟩
  · rw [← g.1.1 i hi]; funext l; exact wi_cell (by omega)
  · rw [f 0 (by omega) (by omega) (by omega)]; exact g.1.2.1
  · have z2 := g.1.2.2 z w hw
    by_cases q : k = 30
    · by_cases y : w = j
      · rw [q, y, wi_self]
        rcases h with h | h | h | h
        · exact h.2.2 q
        · omega
        · omega
        · omega
      · rw [q, wi_place y]; exact z2
    · rw [wi_cell (by omega)]; exact z2
  · rw [f 1 (by omega) (by omega) (by omega)]; exact g.2.1
  · rw [f 2 (by omega) (by omega) (by omega)]; exact g.2.2.1
  · rw [f 9 (by omega) (by omega) (by omega)]; exact g.2.2.2
def hS (ν ω : xM) : Prop := (∀ k, k ≠ 1 → k ≠ 35 → ω k = ν k) ∧ (∀ j, 3 ≤ j → ω 1 j = ν 1 j) ∧ ω 35 7 = 1 ∧ ω 35 8 = ν 35 8
theorem hS.n {μ ν ω : xM} (h : hS μ ν) (s : nT7 ν ω) : hS μ ω := ⟨fun k a b => (s.1 k b).trans (h.1 k a b), fun j a => by rw [s.1 1 (by omega)]; exact h.2.1 j a, by rw [s.2 7 (by omega)]; exact h.2.2.1, by rw [s.2 8 (by omega)]; exact h.2.2.2⟩
theorem hS.w {μ ν : xM} (h : hS μ ν) {j : Nat} {v : Int} (hj : j < 3) : hS μ (wi ν 1 j v) := ⟨fun k a b => by rw [← h.1 k a b]; funext i; exact wi_cell a, fun i a => by rw [wi_place (by omega)]; exact h.2.1 i a, by rw [wi_cell (by omega)]; exact h.2.2.1, by rw [wi_cell (by omega)]; exact h.2.2.2⟩
theorem okP_house {X : Nat → Int} {v1 v2 g : Int} (h : okP X) (b1 : 1 ≤ v1 ∧ v1 ≤ 3) (b2 : 1 ≤ v2 ∧ v2 ≤ 6) (bg : 0 ≤ g ∧ g ≤ 2) : okP (up (up (up X 1 v2) 2 g) 0 v1) := by
  have u : ∀ k, 3 ≤ k → up (up (up X 1 v2) 2 g) 0 v1 k = X k := fun k hk => by rw [up_ne (by omega), up_ne (by omega), up_ne (by omega)]
  have u0 : up (up (up X 1 v2) 2 g) 0 v1 0 = v1 := up_self _ _ _
  have u1 : up (up (up X 1 v2) 2 g) 0 v1 1 = v2 := by rw [up_ne (by omega), up_ne (by omega), up_self]
  have u2 : up (up (up X 1 v2) 2 g) 0 v1 2 = g := by rw [up_ne (by omega), up_self]
  obtain ⟨Y, eY⟩ : ∃ Y, Y = up (up (up X 1 v2) 2 g) 0 v1 := ⟨_, rfl⟩
  rw [← eY] at u u0 u1 u2 ⊢
  obtain ⟨a, b, c, d, e, f, i, j, k, l, m⟩ := h
  refine ⟨fun _ => by rw [u0, u1, u2]; exact ⟨b1, b2, bg⟩, by rw [u 3 (by omega)]; exact b, by rw [u 4 (by omega)]; exact c, by rw [u 5 (by omega)]; exact d, by rw [u 6 (by omega)]; exact e, fun w hw => ?_, fun w hw => ?_, fun w hw => ?_, fun w hw => ?_, fun w hw hx => ?_, fun w hw => ?_⟩
  · rw [u 3 (by omega)] at hw
    rw [u (7 + w) (by omega), u (175 + w) (by omega), u (199 + w) (by omega)]
    refine ⟨(f w hw).1, (f w hw).2.1, (f w hw).2.2.1, fun i hi => ?_⟩
    rw [u (31 + 6 * w + i) (by omega)]; exact (f w hw).2.2.2 i hi
  · rw [u 4 (by omega)] at hw
    rw [u (295 + w) (by omega)]; exact i w hw
  · rw [u 5 (by omega)] at hw
    rw [u (303 + w) (by omega), u (309 + w) (by omega)]; exact j w hw
  · rw [u 6 (by omega)] at hw
    rw [u (315 + w) (by omega), u 3 (by omega)]; exact k w hw
  · rw [u 3 (by omega)] at hx
    rw [u (199 + w) (by omega)]; exact l w hw hx
  · rw [u 4 (by omega)] at hw
    rw [u (223 + w) (by omega)]; exact m w hw
theorem cD_house {T : Nat → Int} {n : Nat} {X : Nat → Int} {ν ω : xM} {v1 v2 g : Int} (c : cD T n X ν) (s : hS ν ω) (e0 : ω 1 0 = v1) (e1 : ω 1 1 = v2) (e2 : ω 1 2 = g) (b1 : 1 ≤ v1 ∧ v1 ≤ 3) (b2 : 1 ≤ v2 ∧ v2 ≤ 6) (bg : 0 ≤ g ∧ g ≤ 2) : cD T n (up (up (up X 1 v2) 2 g) 0 v1) ω := by
  have ok := okP_house (v1 := v1) (v2 := v2) (g := g) c.1 b1 b2 bg
  have u : ∀ k, 3 ≤ k → up (up (up X 1 v2) 2 g) 0 v1 k = X k := fun k hk => by rw [up_ne (by omega), up_ne (by omega), up_ne (by omega)]
  have u0 : up (up (up X 1 v2) 2 g) 0 v1 0 = v1 := up_self _ _ _
  have u1 : up (up (up X 1 v2) 2 g) 0 v1 1 = v2 := by rw [up_ne (by omega), up_ne (by omega), up_self]
  have u2 : up (up (up X 1 v2) 2 g) 0 v1 2 = g := by rw [up_ne (by omega), up_self]
  obtain ⟨Y, eY⟩ : ∃ Y, Y = up (up (up X 1 v2) 2 g) 0 v1 := ⟨_, rfl⟩
  rw [← eY] at u u0 u1 u2 ok ⊢
  obtain ⟨c0, c1, c2, c3, c4, c5, c6, c7, c8⟩ := c
  refine ⟨ok, fun j h3 h7 => ?_, fun _ => ?_, ⟨fun z => ?_, fun _ => s.2.2.1⟩, ?_, fun w hw => ?_, fun w hw => ?_, fun w hw => ?_, fun w hw => ?_⟩
  · rw [s.2.1 j h3, u j h3]; exact c1 j h3 h7
  · rw [u0, u1, u2]; exact ⟨e0, e1, e2⟩
  · rw [u0] at z; omega
  · rw [s.2.2.2, u 321 (by omega)]; exact c4
  · rw [u 3 (by omega)] at hw
    have := c0.2.1
    rw [s.1 2 (by omega) (by omega), s.1 3 (by omega) (by omega), s.1 30 (by omega) (by omega), s.1 (5 + w) (by omega) (by omega), u (7 + w) (by omega), u (175 + w) (by omega), u (199 + w) (by omega)]
    refine ⟨(c5 w hw).1, (c5 w hw).2.1, (c5 w hw).2.2.1, fun i hi => ?_⟩
    rw [u (31 + 6 * w + i) (by omega)]; exact (c5 w hw).2.2.2 i hi
  · rw [u 4 (by omega)] at hw
    rw [s.1 31 (by omega) (by omega), s.1 37 (by omega) (by omega), s.1 38 (by omega) (by omega), u (295 + w) (by omega), u (223 + w) (by omega)]
    obtain ⟨q, x, y, q1, q2, q3, q4, q5, q6⟩ := c6 w hw
    exact ⟨q, x, y, q1, q2, q3, q4, q5, fun i hi => by rw [u (231 + 8 * w + i) (by omega)]; exact q6 i hi⟩
  · rw [u 5 (by omega)] at hw
    rw [s.1 32 (by omega) (by omega), s.1 33 (by omega) (by omega), u (303 + w) (by omega), u (309 + w) (by omega)]; exact c7 w hw
  · rw [u 6 (by omega)] at hw
    rw [s.1 34 (by omega) (by omega), u (315 + w) (by omega)]; exact c8 w hw
theorem s_house7 {T : Nat → Int} {n a : Nat} {X : Nat → Int} {ν : xM} {Q : Int → xM → Prop} (c : cD T n X ν) (t : tC T n a ν) (hq : ∀ r ω, oC T n ν (houseF T n X a) r ω → Q r ω) : tX5_readHouse ν Q := by
  intro _
  by_cases x0 : X 0 = 0
  rotate_left
  · rw [c.2.2.2.1.2 x0]
    exact ⟨fun z => absurd z (by decide), fun _ => s_fl7 t.2.2.1 (fun ω f _ _ => hq 0 ω (oC_bd (cI_y x0) f))⟩
  rw [c.2.2.2.1.1 x0]
  refine ⟨fun _ => wl fun _ => ?_, fun z => absurd rfl z⟩
  have e0 : houseF T n X a = _ := cI_n (fun z => z x0)
  have g0 : gD ν (wi ν 35 7 1) := (gD.rf ν).w (by omega)
  have h0 : hS ν (wi ν 35 7 1) := ⟨fun k _ b => by funext j; exact wi_cell b, fun j _ => wi_cell (by omega), wi_self _ _ _ _, wi_place (by omega)⟩
  refine s_nx7 (t.w (by omega)) (fun ω1 s1 t1 _ => s_key t1 (fun ω2 s2 t2 k2 _ _ => ⟨fun z => absurd z (by decide), fun _ => s_whole t2 (fun ω3 s3 t3 l3 m3 n3 k3 _ _ => ⟨fun _ => wl fun _ => ?_, fun z => absurd z (by decide)⟩) (fun ω x f k3 _ _ => ⟨fun z => absurd z (by decide), fun _ => hq 0 ω (oC_bd ((e0.trans k2).trans k3) (f.p (((g0.tt s1.T.g).tt s2.g).1)))⟩)⟩) (fun ω f k2 _ _ => ⟨fun _ => hq 0 ω (oC_bd (e0.trans k2) (f.p (g0.tt s1.T.g).1)), fun z => absurd z (by decide)⟩))
  have e3 := (e0.trans k2).trans k3
  have g3 := (((g0.tt s1.T.g).tt s2.g).tt s3.g).w (k := 1) (j := 0) (v := ω3 35 13) (by omega)
  have h3 := (((h0.n s1.T).n s2).n s3).w (j := 0) (v := ω3 35 13) (by omega)
  have y0 : wi ω3 1 0 (ω3 35 13) 1 0 = ω3 35 13 := wi_self _ _ _ _
  refine s_key (t3.w (by omega)) (fun ω4 s4 t4 k4 _ _ => ⟨fun z => absurd z (by decide), fun _ => s_whole t4 (fun ω5 s5 t5 l5 m5 n5 k5 _ _ => ⟨fun _ => wl fun _ => ?_, fun z => absurd z (by decide)⟩) (fun ω x f k5 _ _ => ⟨fun z => absurd z (by decide), fun _ => hq 0 ω (oC_bd ((e3.trans k4).trans k5) (f.p (g3.tt s4.g).1))⟩)⟩) (fun ω f k4 _ _ => ⟨fun _ => hq 0 ω (oC_bd (e3.trans k4) (f.p g3.1)), fun z => absurd z (by decide)⟩)
  have e5 := (e3.trans k4).trans k5
  have g5 := ((g3.tt s4.g).tt s5.g).w (k := 1) (j := 1) (v := ω5 35 13) (by omega)
  have h5 := ((h3.n s4).n s5).w (j := 1) (v := ω5 35 13) (by omega)
  have y5 : wi ω5 1 1 (ω5 35 13) 1 0 = ω3 35 13 := by rw [wi_place (by omega), s5.1 1 (by omega), s4.1 1 (by omega)]; exact y0
  have y6 : wi ω5 1 1 (ω5 35 13) 1 1 = ω5 35 13 := wi_self _ _ _ _
  refine s_key (t5.w (by omega)) (fun ω6 s6 t6 k6 _ _ => ⟨fun z => absurd z (by decide), fun _ _ => ?_⟩) (fun ω f k6 _ _ => ⟨fun _ => hq 0 ω (oC_bd (e5.trans k6) (f.p g5.1)), fun z => absurd z (by decide)⟩)
  have e6 := e5.trans k6
  have fin : ∀ g : Int, 0 ≤ g ∧ g ≤ 2 → (houseF T n X a = okk (up (up (up X 1 (wvl T n (nxF T n (nxF T n (nxF T n (nxF T n a)))))) 2 g) 0 (wvl T n (nxF T n (nxF T n a)))) (nxF T n (nxF T n (nxF T n (nxF T n (nxF T n (nxF T n (nxF T n a)))))))) → ∀ ω : xM, ω = wi ω6 1 2 g → xRan ω → tX5_next ω (fun μ => xRan μ → ((1 : Int) = 0 ∨ (1 : Int) = 1) → xRan μ → ((1 : Int) = 0 → Q 0 μ) ∧ ((1 : Int) = 1 → Q 1 μ)) := by
    intro g bg eo
    refine wl fun _ => s_nx7 (t6.w (by omega)) (fun ω7 s7 t7 _ _ _ => ⟨fun z => absurd z (by decide), fun _ => hq 1 ω7 (oC_ok eo (((g5.tt s6.g).w (by omega)).tt s7.T.g) (cD_house c (((h5.n s6).w (by omega)).n s7.T) ?_ ?_ ?_ ⟨l3, m3⟩ ⟨l5, m5⟩ bg) t7)⟩)
    · rw [s7.1 1 (by omega), wi_place (by omega), s6.1 1 (by omega), y5, n3]
    · rw [s7.1 1 (by omega), wi_place (by omega), s6.1 1 (by omega), y6, n5]
    · rw [s7.1 1 (by omega), wi_self]
  refine s_reads t6 (fun q4 _ _ => ⟨fun z => absurd z (by decide), fun _ => ?_⟩) (fun q4 _ _ => ⟨fun _ => s_reads t6 (fun q5 _ _ => ⟨fun z => absurd z (by decide), fun _ => ?_⟩) (fun q5 _ _ => ⟨fun _ => s_reads t6 (fun q6 _ _ => ⟨fun z => absurd z (by decide), fun _ => ?_⟩) (fun q6 _ _ => ⟨fun _ => s_fl7 t6.2.2.1 (fun ω f _ _ _ _ => ⟨fun _ => hq 0 ω (oC_bd (e6.trans ?_) (f.p (g5.tt s6.g).1)), fun z => absurd z (by decide)⟩), fun z => absurd z (by decide)⟩), fun z => absurd z (by decide)⟩), fun z => absurd z (by decide)⟩)
  · exact fin 0 (by decide) (e6.trans (cI_y q4))
  · exact fin 1 (by decide) (e6.trans ((cI_n q4).trans (cI_y q5)))
  · exact fin 2 (by decide) (e6.trans ((cI_n q4).trans ((cI_n q5).trans (cI_y q6))))
  · exact (cI_n q4).trans ((cI_n q5).trans (cI_n q6))
