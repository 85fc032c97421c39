theorem aW.row {T : Nat → Int} {b w len : Nat} {μ ν : xM} (h : aW T b w len μ ν) (hw : w < 24) : ν 35 = μ 35 ∧ ν 36 = μ 36 := ⟨h.1 35 (by omega) (by omega) (by omega) (by omega), h.1 36 (by omega) (by omega) (by omega) (by omega)⟩
theorem aW.g {T : Nat → Int} {b w len : Nat} {μ ν : xM} (h : aW T b w len μ ν) (hw : w < 24) : gD μ ν := by
  have r := h.row hw
  refine ⟨⟨fun k hk => h.1 k (by omega) (by omega) (by omega) (by omega), by rw [r.1], fun z x hx => ?_⟩, by rw [r.1], by rw [r.1], by rw [r.1]⟩
  by_cases y : x = w
  · rw [y, h.2.2.2.2.2.1]; exact Or.inl rfl
  · rw [(h.2.2.2.1 x y).2]; exact z x hx
theorem tC.r {T : Nat → Int} {n a : Nat} {μ ν : xM} (t : tC T n a μ) (h5 : ν 35 = μ 35) (h6 : ν 36 = μ 36) : tC T n a ν := by
  unfold tC tpe at *
  rw [h5, h6]; exact t
theorem s_word7 {T : Nat → Int} {n a : Nat} {X : Nat → Int} {ν : xM} {Q : Int → xM → Prop} (c : cD T n X ν) (t : tC T n a ν) (hq : ∀ r ω, oC T n ν (wordP T n X a) r ω → Q r ω) : tX5_readWord ν Q := by
  have b3 := c.1.2.1
  obtain ⟨w, hw⟩ : ∃ w : Nat, X 3 = w := ⟨(X 3).toNat, by omega⟩
  have e3 : ν 1 3 = w := by rw [c.2.1 3 (by omega) (by omega)]; exact hw
  intro _
  rw [e3]
  by_cases x3 : 24 ≤ X 3
  · exact ⟨fun z => by omega, fun _ => s_fl7 t.2.2.1 (fun ω f _ _ => hq 0 ω (oC_bd (cI_y x3) f))⟩
  have w24 : w < 24 := by omega
  have e0 : wordP T n X a = _ := cI_n x3
  refine ⟨fun _ => s_nx7 t (fun ω1 s1 t1 _ => ?_), fun z => by omega⟩
  obtain ⟨b, eb⟩ : ∃ b, b = nxF T n a := ⟨_, rfl⟩
  rw [← eb] at t1 e0
  have c1 := c.n s1.T
  have g1 := s1.T.g
  have n9 := t1.1.1
  have tl := tkS7_le (T := T) t1.2.1
  rw [t1.2.2.2.2]
  by_cases k1 : tkK T n b = 1
  rotate_left
  · exact ⟨fun z => absurd z k1, fun _ => s_fl7 t1.2.2.1 (fun ω f _ _ => hq 0 ω (oC_bd (e0.trans (cI_n k1)) (f.p g1.1)))⟩
  have e1 := e0.trans (cI_y k1)
  have wr := wrd_in k1
  refine ⟨fun _ => s_told7 c1 t1 (fun _ _ => ?_), fun z => absurd k1 z⟩
  by_cases f0 : 0 ≤ fndF T n X b
  · exact ⟨fun z => by omega, fun _ => s_fl7 t1.2.2.1 (fun ω f _ _ => hq 0 ω (oC_bd (e1.trans (cI_y f0)) (f.p g1.1)))⟩
  have e2 := e1.trans (cI_n f0)
  rw [t1.2.2.1, t1.2.2.2.1]
  by_cases l6 : tkS7 T n b ≤ b + 6
  rotate_left
  · exact ⟨fun _ => ⟨⟨by omega, by omega⟩, fun z => by omega, fun _ => s_fl7 t1.2.2.1 (fun ω f _ _ => hq 0 ω (oC_bd (e2.trans (cI_n l6)) (f.p g1.1)))⟩, fun z => by omega⟩
  have e4 := e2.trans (cI_y l6)
  have w13 : ω1 1 3 = w := by rw [s1.1 1 (by omega)]; exact e3
  refine ⟨fun _ => ⟨⟨by omega, by omega⟩, fun _ => s_addW t1.1 w24 w13 tl.1 tl.2.1 l6 (fun A hA _ => ?_), fun z => by omega⟩, fun z => by omega⟩
  have tA := t1.r (hA.row w24).1 (hA.row w24).2
  have gA := g1.tt (hA.g w24)
  refine s_nx7 tA (fun ω2 s2 t2 _ => s_key t2 (fun ω3 s3 t3 k3 _ _ => ⟨fun z => absurd z (by decide), fun _ => s_whole t3 (fun ω4 s4 t4 l4 m4 n4 k4 _ _ => ⟨fun _ => ?_, fun z => absurd z (by decide)⟩) (fun ω x f k4 _ _ => ⟨fun z => absurd z (by decide), fun _ => hq 0 ω (oC_bd ((e4.trans k3).trans k4) (f.p (((gA.tt s2.T.g).tt s3.g).1)))⟩)⟩) (fun ω f k3 _ _ => ⟨fun _ => hq 0 ω (oC_bd (e4.trans k3) (f.p (gA.tt s2.T.g).1)), fun z => absurd z (by decide)⟩))
  have e5 := (e4.trans k3).trans k4
  have g4 := ((gA.tt s2.T.g).tt s3.g).tt s4.g
  obtain ⟨v, ev⟩ : ∃ v, v = wvl T n (nxF T n (nxF T n b)) := ⟨_, rfl⟩
  rw [← ev] at e5 l4 m4 n4
  have r4 : ∀ k, k ≠ 35 → ω4 k = A k := fun k hk => by rw [s4.1 k hk, s3.1 k hk, s2.1 k hk]
  have r7 : ω4 35 7 = ν 35 7 ∧ ω4 35 8 = ν 35 8 := by
    constructor
    · rw [s4.2 7 (by omega), s3.2 7 (by omega), s2.2 7 (by omega), (hA.row w24).1, s1.2 7 (by omega)]
    · rw [s4.2 8 (by omega), s3.2 8 (by omega), s2.2 8 (by omega), (hA.row w24).1, s1.2 8 (by omega)]
  have a13 : A 1 3 = (w : Int) + 1 := hA.2.2.1
  have o13 : ω4 1 3 = (w : Int) + 1 := by rw [r4 1 (by omega)]; exact a13
  have hW : hWord ω4 1 w := ⟨by omega, by rw [o13]; omega, by omega⟩
  have b0 : X (199 + w) = 0 := c.1.2.2.2.2.2.2.2.2.2.1 w w24 (by omega)
  have mA : mW T b w (tkS7 T n b - b) v 0 X (addW T n X b v) := mW_add hw w24 b0 tl.1 l6
  have fin : ∀ (ω : xM) (Y : Nat → Int) (q : Int), mW T b w (tkS7 T n b - b) v q X Y → (q = 0 ∨ q = 1) → (∀ k, k ≠ 35 → k ≠ 3 → k ≠ 30 → ω k = ω4 k) → (∀ j, j ≠ w → ω 3 j = ω4 3 j ∧ ω 30 j = ω4 30 j) → ω 3 w = v ∧ ω 30 w = q → ω 35 7 = ω4 35 7 ∧ ω 35 8 = ω4 35 8 → cD T n Y ω := by
    intro ω Y q m bq f1 f2 f3 f4
    refine cD_word c m hw w24 (by omega) (by omega) ⟨l4, m4⟩ bq (fun i hi => wr.2.2.2 i (by omega)) (fun k a1 a2 a3 a4 a5 a6 => ?_) (fun j hj => ?_) ?_ (fun j hj => ⟨?_, ?_, ?_⟩) ⟨?_, f3.1, f3.2⟩ (fun i hi => ?_) ⟨f4.1.trans r7.1, f4.2.trans r7.2⟩
    · rw [f1 k a6 a3 a4, r4 k a6, hA.1 k a1 a2 a4 a5, s1.1 k a6]
    · rw [f1 1 (by omega) (by omega) (by omega), r4 1 (by omega), hA.2.1 j hj, s1.1 1 (by omega)]
    · rw [f1 1 (by omega) (by omega) (by omega)]; exact o13
    · rw [f1 2 (by omega) (by omega) (by omega), r4 2 (by omega), (hA.2.2.2.1 j hj).1, s1.1 2 (by omega)]
    · rw [(f2 j hj).1, r4 3 (by omega), hA.1 3 (by omega) (by omega) (by omega) (by omega), s1.1 3 (by omega)]
    · rw [(f2 j hj).2, r4 30 (by omega), (hA.2.2.2.1 j hj).2, s1.1 30 (by omega)]
    · rw [f1 2 (by omega) (by omega) (by omega), r4 2 (by omega)]; exact hA.2.2.2.2.1
    · rw [f1 (5 + w) (by omega) (by omega) (by omega), r4 (5 + w) (by omega)]; exact hA.2.2.2.2.2.2 i hi
  rw [a13, show (w : Int) + 1 - 1 = w by omega]
  refine ⟨⟨by omega, by omega⟩, fun _ _ _ => s_hWord (fun _ _ _ => ⟨fun z => absurd z (by decide), fun _ => ⟨⟨by omega, by omega⟩, wl fun _ _ => ?_⟩⟩) (fun z => absurd hW z)⟩
  rw [Int.toNat_natCast, n4]
  obtain ⟨B, eB⟩ : ∃ B, B = wi ω4 (1 + 2) w v := ⟨_, rfl⟩
  rw [← eB]
  have tB := t4.w (k := 1 + 2) (j := w) (v := v) (by omega)
  have gB := g4.w (k := 1 + 2) (j := w) (v := v) (by omega)
  rw [← eB] at tB gB
  have Bk : ∀ k, k ≠ 3 → B k = ω4 k := fun k hk => by rw [eB]; funext j; exact wi_cell (by omega)
  have B3 : B 3 w = v ∧ ∀ j, j ≠ w → B 3 j = ω4 3 j := by rw [eB]; exact ⟨wi_self _ _ _ _, fun j hj => wi_place hj⟩
  have B30 : B 30 w = 0 := by rw [Bk 30 (by omega), r4 30 (by omega)]; exact hA.2.2.2.2.2.1
  refine s_reads tB (fun q9 _ _ => ⟨fun z => absurd z (by decide), fun _ _ _ _ => s_hWord (fun _ _ _ => ⟨fun z => absurd z (by decide), fun _ => ⟨⟨by omega, by omega⟩, wl fun _ _ => ?_⟩⟩) (fun z => absurd ?_ z)⟩) (fun q9 _ _ => ⟨fun _ => hq 1 B (oC_ok (e5.trans (cI_n q9)) gB (fin B _ 0 mA (Or.inl rfl) (fun k _ k3 _ => Bk k k3) (fun j hj => ⟨B3.2 j hj, by rw [Bk 30 (by omega)]⟩) ⟨B3.1, B30⟩ ⟨by rw [Bk 35 (by omega)], by rw [Bk 35 (by omega)]⟩) tB), fun z => absurd z (by decide)⟩)
  · rw [Int.toNat_natCast]
    refine s_nx7 (tB.w (by omega)) (fun ω5 s5 t5 _ => hq 1 ω5 (oC_ok (e5.trans (cI_y q9)) ((gB.w ?_).tt s5.T.g) (fin ω5 _ 1 ?_ (Or.inr rfl) (fun k k5 k3 k30 => ?_) (fun j hj => ⟨?_, ?_⟩) ⟨?_, ?_⟩ ⟨?_, ?_⟩) t5))
    · exact Or.inl ⟨by omega, by omega, fun _ => Or.inr rfl⟩
    · rw [show (X 3).toNat = w by omega]; exact mW_bar mA w24 (by omega)
    · rw [s5.1 k k5, ← Bk k k3]; funext j; exact wi_cell (by omega)
    · rw [s5.1 3 (by omega), wi_cell (by omega)]; exact B3.2 j hj
    · rw [s5.1 30 (by omega), ← Bk 30 (by omega)]; exact wi_place (k := 30) hj
    · rw [s5.1 3 (by omega), wi_cell (by omega)]; exact B3.1
    · rw [s5.1 30 (by omega)]; exact wi_self _ 30 _ _
    · rw [s5.2 7 (by omega), wi_cell (by omega), Bk 35 (by omega)]
    · rw [s5.2 8 (by omega), wi_cell (by omega), Bk 35 (by omega)]
  · exact ⟨by omega, by rw [Bk 1 (by omega), o13]; omega, by omega⟩
