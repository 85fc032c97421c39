/-! the class reads seen; a line; the end -/
theorem cD_up321 {T : Nat → Int} {n : Nat} {X : Nat → Int} {ν ω : xM} (c : cD T n X ν) (f : ∀ k, k ≠ 35 → ω k = ν k) (f7 : ω 35 7 = ν 35 7) (f8 : ω 35 8 = 1) : cD T n (up X 321 1) ω := by
  have o : ∀ k, k ≠ 321 → up X 321 1 k = X k := fun k hk => up_ne hk
  have o1 : up X 321 1 321 = 1 := up_self _ _ _
  obtain ⟨Y, eY⟩ : ∃ Y, Y = up X 321 1 := ⟨_, rfl⟩
  rw [← eY] at o o1 ⊢
  obtain ⟨⟨a0, a3, a4, a5, a6, aw, ag, al, as, ab, am⟩, c1, c2, c3, c4, c5, c6, c7, c8⟩ := c
  refine ⟨⟨?_, by rw [o 3 (by omega)]; exact a3, by rw [o 4 (by omega)]; exact a4, by rw [o 5 (by omega)]; exact a5, by rw [o 6 (by omega)]; exact a6, fun w hw => ?_, fun w hw => ?_, fun w hw => ?_, fun w hw => ?_, fun w hw hy => ?_, fun w hw => ?_⟩, fun j h3 h7 => ?_, ?_, ?_, ⟨fun z => by omega, fun _ => f8⟩, fun w hw => ?_, fun w hw => ?_, fun w hw => ?_, fun w hw => ?_⟩
  · rw [o 0 (by omega), o 1 (by omega), o 2 (by omega)]; exact a0
  · rw [o 3 (by omega)] at hw
    have fx := aw w hw
    rw [o (7 + w) (by omega), o (175 + w) (by omega), o (199 + w) (by omega)]
    refine ⟨fx.1, fx.2.1, fx.2.2.1, fun i hi => ?_⟩
    rw [o (31 + 6 * w + i) (by omega)]; exact fx.2.2.2 i hi
  · rw [o 4 (by omega)] at hw
    rw [o (295 + w) (by omega)]; exact ag w hw
  · rw [o 5 (by omega)] at hw
    rw [o (303 + w) (by omega), o (309 + w) (by omega)]; exact al w hw
  · rw [o 6 (by omega)] at hw
    rw [o (315 + w) (by omega), o 3 (by omega)]; exact as w hw
  · rw [o 3 (by omega)] at hy
    rw [o (199 + w) (by omega)]; exact ab w hw hy
  · rw [o 4 (by omega)] at hw
    rw [o (223 + w) (by omega)]; exact am w hw
  · rw [f 1 (by omega), o j (by omega)]; exact c1 j h3 h7
  · rw [o 0 (by omega), o 1 (by omega), o 2 (by omega), f 1 (by omega)]; exact c2
  · rw [o 0 (by omega), f7]; exact c3
  · rw [o 3 (by omega)] at hw
    have fx := c5 w hw
    have ox := aw w hw
    rw [f 2 (by omega), f 3 (by omega), f 30 (by omega), f (5 + w) (by omega), o (7 + w) (by omega), o (175 + w) (by omega), o (199 + w) (by omega)]
    refine ⟨fx.1, fx.2.1, fx.2.2.1, fun i hi => ?_⟩
    rw [fx.2.2.2 i hi, o (31 + 6 * w + i) (by omega)]
  · rw [o 4 (by omega)] at hw
    have m8 := am w hw
    obtain ⟨r, s, e, q1, q2, q3, q4, q5, q6⟩ := c6 w hw
    rw [f 31 (by omega), f 37 (by omega), f 38 (by omega), o (295 + w) (by omega), o (223 + w) (by omega)]
    exact ⟨r, s, e, q1, q2, q3, q4, q5, fun i hi => by rw [o (231 + 8 * w + i) (by omega)]; exact q6 i hi⟩
  · rw [o 5 (by omega)] at hw
    rw [f 32 (by omega), f 33 (by omega), o (303 + w) (by omega), o (309 + w) (by omega)]; exact c7 w hw
  · rw [o 6 (by omega)] at hw
    rw [f 34 (by omega), o (315 + w) (by omega)]; exact c8 w hw
def mSn (i : Nat) (x : Int) (X Y : Nat → Int) : Prop := Y 6 = (i : Int) + 1 ∧ Y (315 + i) = x ∧ ∀ k, k ≠ 6 → k ≠ 315 + i → Y k = X k
theorem mSn_add {i : Nat} {x : Int} {X : Nat → Int} (hi : X 6 = i) : mSn i x X (up (up X (315 + (X 6).toNat) x) 6 (X 6 + 1)) := by
  rw [hi, Int.toNat_natCast]
  refine ⟨up_self _ _ _, ?_, fun k a b => ?_⟩
  · rw [up_ne (by omega), up_self]
  · rw [up_ne a, up_ne b]
theorem cD_seen {T : Nat → Int} {n i : Nat} {x : Int} {X Y : Nat → Int} {ν ω : xM} (c : cD T n X ν) (m : mSn i x X Y) (hi : X 6 = i) (i6 : i < 6) (bx : 0 ≤ x ∧ x < X 3)
    (f : ∀ k, k ≠ 1 → k ≠ 34 → k ≠ 35 → ω k = ν k) (f1 : ∀ j, j ≠ 6 → ω 1 j = ν 1 j) (g1 : ω 1 6 = (i : Int) + 1) (f2 : ∀ j, j ≠ i → ω 34 j = ν 34 j) (g2 : ω 34 i = x) (f7 : ω 35 7 = ν 35 7 ∧ ω 35 8 = ν 35 8) : cD T n Y ω := by
  obtain ⟨e6, ex, eo⟩ := m
  obtain ⟨⟨a0, a3, a4, a5, a6, aw, ag, al, as, ab, am⟩, c1, c2, c3, c4, c5, c6, c7, c8⟩ := c
  have o := fun k (h1 : k ≠ 6 ∧ (k < 315 ∨ 321 ≤ k)) => eo k (by omega) (by omega)
  refine ⟨⟨?_, by rw [o 3 (by omega)]; exact a3, by rw [o 4 (by omega)]; exact a4, by rw [o 5 (by omega)]; exact a5, ⟨by omega, by omega⟩, fun w hw => ?_, fun w hw => ?_, fun w hw => ?_, fun w hw => ?_, fun w hw hy => ?_, fun w hw => ?_⟩, fun j h3 h7 => ?_, ?_, ?_, ?_, fun w hw => ?_, fun w hw => ?_, fun w hw => ?_, fun w hw => ?_⟩
  · rw [o 0 (by omega), o 1 (by omega), o 2 (by omega)]; exact a0
  · rw [o 3 (by omega)] at hw
    have fx := aw w hw
    rw [o (7 + w) (by omega), o (175 + w) (by omega), o (199 + w) (by omega)]
    refine ⟨fx.1, fx.2.1, fx.2.2.1, fun i hi => ?_⟩
    rw [o (31 + 6 * w + i) (by omega)]; exact fx.2.2.2 i hi
  · rw [o 4 (by omega)] at hw
    rw [o (295 + w) (by omega)]; exact ag w hw
  · rw [o 5 (by omega)] at hw
    rw [o (303 + w) (by omega), o (309 + w) (by omega)]; exact al w hw
  · rw [o 3 (by omega)]
    by_cases y : w = i
    · rw [y, ex]; exact bx
    · rw [eo (315 + w) (by omega) (by omega)]; exact as w (by omega)
  · rw [o 3 (by omega)] at hy
    rw [o (199 + w) (by omega)]; exact ab w hw hy
  · rw [o 4 (by omega)] at hw
    rw [o (223 + w) (by omega)]; exact am w hw
  · by_cases y : j = 6
    · rw [y, g1, e6]
    · rw [f1 j y, o j (by omega)]; exact c1 j h3 h7
  · rw [o 0 (by omega), o 1 (by omega), o 2 (by omega), f1 0 (by omega), f1 1 (by omega), f1 2 (by omega)]; exact c2
  · rw [o 0 (by omega), f7.1]; exact c3
  · rw [o 321 (by omega), f7.2]; exact c4
  · rw [o 3 (by omega)] at hw
    have fx := c5 w hw
    have ox := aw w hw
    rw [f 2 (by omega) (by omega) (by omega), f 3 (by omega) (by omega) (by omega), f 30 (by omega) (by omega) (by omega), f (5 + w) (by omega) (by omega) (by omega), o (7 + w) (by omega), o (175 + w) (by omega), o (199 + w) (by omega)]
    refine ⟨fx.1, fx.2.1, fx.2.2.1, fun i hi => ?_⟩
    rw [fx.2.2.2 i hi, o (31 + 6 * w + i) (by omega)]
  · rw [o 4 (by omega)] at hw
    have m8 := am w hw
    obtain ⟨r, s, e, q1, q2, q3, q4, q5, q6⟩ := c6 w hw
    rw [f 31 (by omega) (by omega) (by omega), f 37 (by omega) (by omega) (by omega), f 38 (by omega) (by omega) (by omega), o (295 + w) (by omega), o (223 + w) (by omega)]
    exact ⟨r, s, e, q1, q2, q3, q4, q5, fun i hi => by rw [o (231 + 8 * w + i) (by omega)]; exact q6 i hi⟩
  · rw [o 5 (by omega)] at hw
    rw [f 32 (by omega) (by omega) (by omega), f 33 (by omega) (by omega) (by omega), o (303 + w) (by omega), o (309 + w) (by omega)]; exact c7 w hw
  · by_cases y : w = i
    · rw [y, ex]; exact g2
    · rw [f2 w y, eo (315 + w) (by omega) (by omega)]; exact c8 w (by omega)
theorem seenL_s {T : Nat → Int} {n m : Nat} {X : Nat → Int} {a : Nat} : seenL T n (m + 1) X a = cI (tkK T n (nxF T n a) = 1) (cI (0 ≤ fndF T n X (nxF T n a)) (cI (6 ≤ X 6) (bd 5 (nxF T n a))
    (cI (tkK T n (nxF T n (nxF T n a)) = 4) (seenL T n m (up (up X (315 + (X 6).toNat) (fndF T n X (nxF T n a))) 6 (X 6 + 1)) (nxF T n (nxF T n a))) (okk (up (up X (315 + (X 6).toNat) (fndF T n X (nxF T n a))) 6 (X 6 + 1)) (nxF T n (nxF T n a))))) (bd 2 (nxF T n a))) (bd 1 (nxF T n a)) := rfl
noncomputable def seenP (T : Nat → Int) (n : Nat) (X : Nat → Int) (a : Nat) : pO := cI (X 321 ≠ 0) (bd 3 a) (seenL T n (7 - X 6).toNat (up X 321 1) a)
theorem s_seen7 {T : Nat → Int} {n a : Nat} {X : Nat → Int} {ν : xM} {Q : Int → xM → Prop} (c : cD T n X ν) (t : tC T n a ν) (hq : ∀ r ω, oC T n ν (seenP T n X a) r ω → Q r ω) : tX5_readSeen ν Q := by
  intro _
  by_cases x8 : X 321 = 0
  rotate_left
  · rw [c.2.2.2.2.1.2 x8]
    exact ⟨fun z => absurd z (by decide), fun _ => s_fl7 t.2.2.1 (fun ω f _ _ => hq 0 ω (oC_bd (cI_y x8) f))⟩
  rw [c.2.2.2.2.1.1 x8]
  refine ⟨fun _ => wl fun _ => ?_, fun z => absurd rfl z⟩
  have eS : seenP T n X a = _ := cI_n (fun z => z x8)
  have cA : cD T n (up X 321 1) (wi ν 35 8 1) := cD_up321 c (fun k hk => by funext j; exact wi_cell hk) (wi_place (by omega)) (wi_self _ _ _ _)
  have x6 : up X 321 1 6 = X 6 := up_ne (by omega)
  refine ⟨fun m l ω => ∃ (Y : Nat → Int) (b : Nat), cD T n Y ω ∧ tC T n b ω ∧ gD ν ω ∧ m = (7 - Y 6).toNat ∧ seenL T n m Y b = seenP T n X a ∧ 0 ≤ l ∧ l ≤ Y 6, ⟨_, up X 321 1, a, cA, t.w (by omega), (gD.rf ν).w (by omega), rfl, by rw [x6]; exact eS.symm, by omega, by rw [x6]; exact c.1.2.2.2.2.1.1⟩, ?_⟩
  rintro m l ω ⟨Y, a', cY, tY, gY, rfl, eY, l0, l1⟩ _
  have b6 := cY.1.2.2.2.2.1
  have b3 := cY.1.2.1
  obtain ⟨g, hg⟩ : ∃ g : Nat, Y 6 = g := ⟨(Y 6).toNat, by omega⟩
  have e0 := eY.symm
  rw [show (7 - Y 6).toNat = (6 - Y 6).toNat + 1 by omega, seenL_s] at e0
  refine ⟨⟨by omega, by omega⟩, fun z => by omega, fun _ => s_nx7 tY (fun ω1 s1 t1 _ => ?_)⟩
  obtain ⟨b, eb⟩ : ∃ b, b = nxF T n a' := ⟨_, rfl⟩
  rw [← eb] at t1 e0
  have c1 := cY.n s1.T
  have g1 := gY.tt s1.T.g
  rw [t1.2.2.2.2]
  by_cases k1 : tkK T n b = 1
  rotate_left
  · exact ⟨fun z => absurd z k1, fun _ => s_fl7 t1.2.2.1 (fun ω f _ _ => hq 0 ω (oC_bd (e0.trans (cI_n k1)) (f.p g1.1)))⟩
  have e1 := e0.trans (cI_y k1)
  refine ⟨fun _ => s_told7 c1 t1 (fun _ _ => ?_), fun z => absurd k1 z⟩
  have fb := fndF_b (T := T) (n := n) (b := b) (X := Y) b3.1
  by_cases f0 : 0 ≤ fndF T n Y b
  rotate_left
  · exact ⟨fun z => absurd z f0, fun _ => s_fl7 t1.2.2.1 (fun ω f _ _ => hq 0 ω (oC_bd (e1.trans (cI_n f0)) (f.p g1.1)))⟩
  have e2 := e1.trans (cI_y f0)
  have w4 : ω1 1 6 = g := by rw [c1.2.1 6 (by omega) (by omega)]; exact hg
  rw [w4]
  by_cases g6 : 6 ≤ Y 6
  · exact ⟨fun _ => ⟨fun z => by omega, fun _ => s_fl7 t1.2.2.1 (fun ω f _ _ => hq 0 ω (oC_bd (e2.trans (cI_y g6)) (f.p g1.1)))⟩, fun z => absurd f0 z⟩
  have e3 := e2.trans (cI_n g6)
  refine ⟨fun _ => ⟨fun _ _ _ => ?_, fun z => by omega⟩, fun z => absurd f0 z⟩
  rw [w4]
  refine ⟨fun z => by omega, fun _ => ⟨⟨by omega, by omega⟩, wl fun _ => ?_⟩⟩
  rw [Int.toNat_natCast, show wi ω1 (1 + 33) g (fndF T n Y b) 1 6 = g by rw [wi_cell (by omega)]; exact w4]
  refine ⟨⟨by omega, by omega⟩, wl fun _ _ => s_nx7 ((t1.w (by omega)).w (by omega)) (fun ω2 s2 t4 _ => ?_)⟩
  have g2 : gD ν ω2 := (((g1.w (by omega)).w (by omega))).tt s2.T.g
  have mm := mSn_add (i := g) (x := fndF T n Y b) hg
  have cc : cD T n (up (up Y (315 + (Y 6).toNat) (fndF T n Y b)) 6 (Y 6 + 1)) ω2 := by
    refine cD_seen c1 mm hg (by omega) ⟨f0, by omega⟩ (fun k a1 a2 a3 => ?_) (fun j hj => ?_) ?_ (fun j hj => ?_) ?_ ⟨?_, ?_⟩
    · rw [s2.1 k a3]; funext j; rw [wi_cell a1, wi_cell (by omega)]
    · rw [s2.1 1 (by omega), wi_place hj, wi_cell (by omega)]
    · rw [s2.1 1 (by omega), wi_self]
    · rw [s2.1 34 (by omega), wi_cell (by omega)]; exact wi_place (k := 34) hj
    · rw [s2.1 34 (by omega), wi_cell (by omega)]; exact wi_self _ 34 _ _
    · rw [s2.2 7 (by omega), wi_cell (by omega), wi_cell (by omega)]
    · rw [s2.2 8 (by omega), wi_cell (by omega), wi_cell (by omega)]
  rw [t4.2.2.2.2]
  have y6 := mm.1
  exact ⟨fun k4 => ⟨(6 - Y 6).toNat, by omega, _, nxF T n b, cc, t4, g2, by rw [y6]; omega, (e3.trans (cI_y k4)).symm, by omega, by rw [y6]; omega⟩, fun k4 => hq 1 ω2 (oC_ok (e3.trans (cI_n k4)) g2 cc t4)⟩
theorem s_line7 {T : Nat → Int} {n a : Nat} {X : Nat → Int} {ν : xM} {Q : Int → xM → Prop} (c : cD T n X ν) (t : tC T n a ν) (hq : ∀ r ω, oC T n ν (lineP T n X a) r ω → Q r ω) : tX5_readLine ν Q := by
  have go : ∀ o : pO, lineP T n X a = o → ∀ r ω, oC T n ν o r ω → (r = 0 ∨ r = 1) → xRan ω → Q r ω := fun o e r ω h _ _ => hq r ω (by rw [e]; exact h)
  intro _
  refine s_reads t (fun q0 _ _ => ⟨fun z => absurd z (by decide), fun _ => s_house7 c t (go _ (cI_y q0))⟩) (fun q0 _ _ => ⟨fun _ => ?_, fun z => absurd z (by decide)⟩)
  refine s_reads t (fun q1 _ _ => ⟨fun z => absurd z (by decide), fun _ => s_word7 c t (go _ ((cI_n q0).trans (cI_y q1)))⟩) (fun q1 _ _ => ⟨fun _ => ?_, fun z => absurd z (by decide)⟩)
  refine s_reads t (fun q2 _ _ => ⟨fun z => absurd z (by decide), fun _ => s_guest7 c t (go _ ((cI_n q0).trans ((cI_n q1).trans (cI_y q2))))⟩) (fun q2 _ _ => ⟨fun _ => ?_, fun z => absurd z (by decide)⟩)
  refine s_reads t (fun q3 _ _ => ⟨fun z => absurd z (by decide), fun _ => s_likely7 c t (go _ ((cI_n q0).trans ((cI_n q1).trans ((cI_n q2).trans (cI_y q3)))))⟩) (fun q3 _ _ => ⟨fun _ => ?_, fun z => absurd z (by decide)⟩)
  refine s_reads t (fun q4 _ _ => ⟨fun z => absurd z (by decide), fun _ => s_seen7 c t (go _ ((cI_n q0).trans ((cI_n q1).trans ((cI_n q2).trans ((cI_n q3).trans (cI_y q4))))))⟩) (fun q4 _ _ => ⟨fun _ => s_fl7 t.2.2.1 (fun ω f _ _ => hq 0 ω (oC_bd ((cI_n q0).trans ((cI_n q1).trans ((cI_n q2).trans ((cI_n q3).trans (cI_n q4))))) f)), fun z => absurd z (by decide)⟩)
theorem s_ends7 {T : Nat → Int} {n a : Nat} {X : Nat → Int} {ν : xM} {Q : Int → xM → Prop} (c : cD T n X ν) (t : tC T n a ν) (hq : ∀ r ω, oC T n ν (endP T n X a) r ω → Q r ω) : tX5_ends ν Q := by
  have b3 := c.1.2.1
  have b4 := c.1.2.2.1
  intro _
  rw [t.2.2.2.2, c.2.1 3 (by omega) (by omega), c.2.1 4 (by omega) (by omega)]
  by_cases k : tkK T n a = 0
  rotate_left
  · exact ⟨fun z => absurd z k, fun _ => s_fl7 t.2.2.1 (fun ω f _ _ => hq 0 ω (oC_bd (cI_n k) f))⟩
  have e0 : endP T n X a = _ := cI_y k
  have bad : X 0 = 0 ∨ X 3 = 0 ∨ X 4 = 0 → tX5_fails 6 ν (fun r ω => (r = 0 ∨ r = 1) → xRan ω → Q r ω) := fun z => s_fl7 t.2.2.1 (fun ω f _ _ => hq 0 ω (oC_bd (e0.trans (cI_y z)) f))
  refine ⟨fun _ => ?_, fun z => absurd k z⟩
  by_cases x0 : X 0 = 0
  · rw [c.2.2.2.1.1 x0]
    exact ⟨fun _ => bad (Or.inl x0), fun z => absurd rfl z⟩
  · rw [c.2.2.2.1.2 x0]
    refine ⟨fun z => absurd z (by decide), fun _ => ⟨fun z => bad (by omega), fun z => ⟨fun z4 => hq 1 ν (oC_ok (e0.trans (cI_n (by omega))) (gD.rf ν) c t), fun z4 => bad (by omega)⟩⟩⟩
