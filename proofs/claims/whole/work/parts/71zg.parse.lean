/-! the reference reads seen; a line -/
theorem okP_321 {X : Nat → Int} (h : okP X) : okP (up X 321 1) := by
  have o : ∀ k, k ≠ 321 → up X 321 1 k = X k := fun k hk => up_ne hk
  obtain ⟨Y, eY⟩ : ∃ Y, Y = up X 321 1 := ⟨_, rfl⟩
  rw [← eY] at o ⊢
  obtain ⟨a0, a3, a4, a5, a6, aw, ag, al, as, ab, am⟩ := h
  refine ⟨?_, by rw [o 3 (by omega)]; exact a3, by rw [o 4 (by omega)]; exact a4, by rw [o 5 (by omega)]; exact a5, by rw [o 6 (by omega)]; exact a6, fun w hw => ?_, fun w hw => ?_, fun w hw => ?_, fun w hw => ?_, fun w hw hy => ?_, fun w hw => ?_⟩
  · rw [o 0 (by omega), o 1 (by omega), o 2 (by omega)]; exact a0
  · rw [o 3 (by omega)] at hw
    have fx := aw w hw
    rw [o (7 + w) (by omega), o (175 + w) (by omega), o (199 + w) (by omega)]
    refine ⟨fx.1, fx.2.1, fx.2.2.1, fun i hi => ?_⟩
    rw [o (31 + 6 * w + i) (by omega)]; exact fx.2.2.2 i hi
  · rw [o 4 (by omega)] at hw
    rw [o (295 + w) (by omega)]; exact ag w hw
  · rw [o 5 (by omega)] at hw
    rw [o (303 + w) (by omega), o (309 + w) (by omega)]; exact al w hw
  · rw [o 6 (by omega)] at hw
    rw [o (315 + w) (by omega), o 3 (by omega)]; exact as w hw
  · rw [o 3 (by omega)] at hy
    rw [o (199 + w) (by omega)]; exact ab w hw hy
  · rw [o 4 (by omega)] at hw
    rw [o (223 + w) (by omega)]; exact am w hw
theorem okP_seen {i : Nat} {x : Int} {X Y : Nat → Int} (h : okP X) (m : mSn i x X Y) (hi : X 6 = i) (i6 : i < 6) (bx : 0 ≤ x ∧ x < X 3) : okP Y := by
  obtain ⟨e6, ex, eo⟩ := m
  obtain ⟨a0, a3, a4, a5, a6, aw, ag, al, as, ab, am⟩ := h
  have o := fun k (h1 : k ≠ 6 ∧ (k < 315 ∨ 321 ≤ k)) => eo k (by omega) (by omega)
  refine ⟨?_, by rw [o 3 (by omega)]; exact a3, by rw [o 4 (by omega)]; exact a4, by rw [o 5 (by omega)]; exact a5, ⟨by omega, by omega⟩, fun w hw => ?_, fun w hw => ?_, fun w hw => ?_, fun w hw => ?_, fun w hw hy => ?_, fun w hw => ?_⟩
  · rw [o 0 (by omega), o 1 (by omega), o 2 (by omega)]; exact a0
  · rw [o 3 (by omega)] at hw
    have fx := aw w hw
    rw [o (7 + w) (by omega), o (175 + w) (by omega), o (199 + w) (by omega)]
    refine ⟨fx.1, fx.2.1, fx.2.2.1, fun i hi => ?_⟩
    rw [o (31 + 6 * w + i) (by omega)]; exact fx.2.2.2 i hi
  · rw [o 4 (by omega)] at hw
    rw [o (295 + w) (by omega)]; exact ag w hw
  · rw [o 5 (by omega)] at hw
    rw [o (303 + w) (by omega), o (309 + w) (by omega)]; exact al w hw
  · rw [o 3 (by omega)]
    by_cases y : w = i
    · rw [y, ex]; exact bx
    · rw [eo (315 + w) (by omega) (by omega)]; exact as w (by omega)
  · rw [o 3 (by omega)] at hy
    rw [o (199 + w) (by omega)]; exact ab w hw hy
  · rw [o 4 (by omega)] at hw
    rw [o (223 + w) (by omega)]; exact am w hw
theorem d_b103 {b2 : Int} {ν : xM} {Q : xM → Prop} {J : Int → xM → Prop} (h : ν 260 13 ≠ 0) (hq : Q ν) : tX11_seenLine_b103 b2 ν Q J := fun _ => ⟨fun z => absurd z h, fun _ => hq⟩
theorem d_b75 {b2 : Int} {ν : xM} {Q : xM → Prop} {J : Int → xM → Prop} (h : ν 260 13 ≠ 0) (hq : Q ν) : tX11_seenLine_b75 b2 ν Q J := fun _ => ⟨fun _ => d_b103 h hq, fun z => absurd z h⟩
theorem d_b54 {b2 : Int} {ν : xM} {Q : xM → Prop} {J : Int → xM → Prop} (h : ν 260 13 ≠ 0) (hq : Q ν) : tX11_seenLine_b54 b2 ν Q J := fun _ => ⟨fun _ => d_b75 h hq, fun z => absurd z h⟩
theorem r_seen7 {T : Nat → Int} {n a : Nat} {X : Nat → Int} {ν : xM} {Q : xM → Prop} (h : rD T n X (nxF T n a) ν) (x8 : X 321 = 0) (hq : ∀ ω, oR T n ν (seenP T n X a) ω → Q ω) : tX11_seenLine ν Q := by
  obtain ⟨okX, h64X, tX, h13⟩ := h
  have eS : seenP T n X a = _ := cI_n (fun z => z x8)
  have x6 : up X 321 1 6 = X 6 := up_ne (by omega)
  intro _
  refine ⟨fun _ => wl fun _ => ?_, fun z => absurd h13 z⟩
  refine ⟨fun m l ω => (l = 0 ∧ oR T n ν (seenP T n X a) ω) ∨ (l = 1 ∧ ∃ (Y : Nat → Int) (a' : Nat), rD T n Y (nxF T n a') ω ∧ gR ν ω ∧ m = (7 - Y 6).toNat ∧ seenL T n m Y a' = seenP T n X a), ⟨_, Or.inr ⟨rfl, up X 321 1, a, ⟨okP_321 okX, h64X.w, tX.w, (gR.rf ν).w.z h13⟩, (gR.rf ν).w, rfl, by rw [x6]; exact eS.symm⟩⟩, ?_⟩
  rintro m l ω (⟨rfl, ho⟩ | ⟨rfl, Y, a', ⟨ok, h64, t, z13⟩, gY, rfl, eY⟩) _
  · exact ⟨⟨by decide, by decide⟩, fun _ => hq ω ho, fun z => absurd rfl z⟩
  have b6 := ok.2.2.2.2.1
  have b3 := ok.2.1
  obtain ⟨g, hg⟩ : ∃ g : Nat, Y 6 = g := ⟨(Y 6).toNat, by omega⟩
  obtain ⟨w, hw⟩ : ∃ g : Nat, Y 3 = g := ⟨(Y 3).toNat, by omega⟩
  have e0 := eY.symm
  rw [show (7 - Y 6).toNat = (6 - Y 6).toNat + 1 by omega, seenL_s] at e0
  obtain ⟨b, eb⟩ : ∃ b, b = nxF T n a' := ⟨_, rfl⟩
  rw [← eb] at t e0
  have y3 : ω 264 3 = w := by rw [h64 3 (by omega)]; exact hw
  have y6 : ω 264 6 = g := by rw [h64 6 (by omega)]; exact hg
  refine ⟨⟨by decide, by decide⟩, fun z => absurd z (by decide), fun _ => r_mw7 t z13 (fun k1 _ => ⟨fun _ => ?_, fun z => absurd z13 z⟩) (fun k1 χ fl _ => ⟨fun z => absurd z fl.d, fun _ => d_b54 fl.d (hq χ (oR_bd (e0.trans (cI_n k1)) (fl.p gY)))⟩)⟩
  have e1 := e0.trans (cI_y k1)
  rw [y3]
  refine r_find7 (c := w) (q := 7) (s := 31) (w := 6) (P := tlW T n Y b) t h64 k1 (by omega) (by omega) (fun x hx => ?_) (fun x hx => Iff.rfl) (fun _ _ => ?_)
  · have := (ok.2.2.2.2.2.1 x (by omega)).1; omega
  have ef : scanF (tlW T n Y b) (fun w => (w : Int)) w 0 = fndF T n Y b := by unfold fndF; rw [hw]; rfl
  rw [ef]
  have fb := fndF_b (T := T) (n := n) (b := b) (X := Y) b3.1
  refine fun _ => ⟨fun z => absurd z13 z, fun _ => ⟨⟨by omega, by omega⟩, fun f0 => ?_, fun f0 => ?_⟩⟩
  rotate_left
  · rw [t.2.2.1]
    exact r_wrong z13 (fun χ fl _ => d_b75 fl.d (hq χ (oR_bd (e1.trans (cI_n f0)) (fl.p gY))))
  have e2 := e1.trans (cI_y f0)
  intro _
  rw [y6, t.2.2.1]
  by_cases g6 : 6 ≤ Y 6
  · exact ⟨fun z => absurd z13 z, fun _ => ⟨fun z => absurd (by omega) z, fun _ => r_wrong z13 (fun χ fl _ => d_b103 fl.d (hq χ (oR_bd (e2.trans (cI_y g6)) (fl.p gY))))⟩⟩
  have e3 := e2.trans (cI_n g6)
  refine ⟨fun z => absurd z13 z, fun _ => ⟨fun _ _ => ⟨fun _ => ?_, fun z => absurd z13 z⟩, fun z => by omega⟩⟩
  rw [y6, show (315 + (g : Int)).toNat = 315 + g by omega]
  refine ⟨⟨by omega, by omega⟩, ⟨by omega, by omega⟩, wl fun _ => ?_⟩
  rw [show wi ω 264 (315 + g) (fndF T n Y b) 264 6 = g by rw [wi_place (by omega)]; exact y6]
  refine ⟨⟨by omega, by omega⟩, wl fun _ => r_nx7 t.w.w (fun ω1 s1 t1 _ => ?_)⟩
  have mm := mSn_add (i := g) (x := fndF T n Y b) hg
  have g1 := (gY.w.w (j := 6) (v := (g : Int) + 1)).tt s1.g
  have r1 : r64 (up (up Y (315 + (Y 6).toNat) (fndF T n Y b)) 6 (Y 6 + 1)) ω1 := by
    rw [hg, Int.toNat_natCast]; exact (h64.w.w).s s1
  have ok1 := okP_seen ok mm hg (by omega) ⟨f0, by omega⟩
  refine r_comma7 t1 (g1.z h13) (fun k4 ω2 s2 t2 _ _ => ⟨(6 - Y 6).toNat, by omega, Or.inr ⟨rfl, _, nxF T n b, ⟨ok1, r1.s s2, t2, (g1.tt s2.g).z h13⟩, g1.tt s2.g, by rw [mm.1]; omega, (e3.trans (cI_y k4)).symm⟩⟩) (fun k4 _ _ => ⟨0, by omega, Or.inl ⟨rfl, oR_ok (e3.trans (cI_n k4)) g1 ok1 r1 t1 (g1.z h13)⟩⟩)
theorem oR.p {T : Nat → Int} {n : Nat} {o : pO} {μ ν ω : xM} (h : oR T n ν o ω) (g : gR μ ν) : oR T n μ o ω := by
  cases o with
  | inl q => exact flR.p h g
  | inr q => exact ⟨g.tt h.1, h.2⟩
theorem r_begins {T : Nat → Int} {n a i : Nat} {s f : Int} {ν : xM} {Q : Int → xM → Prop} (t : tR T n a ν) (h13 : ν 260 13 = 0) (h1 : isKw T n i a → s = 1 → ∀ ω, rS ν ω → tR T n (nxF T n a) ω → Q 1 ω) (h2 : isKw T n i a → s = 0 → ∀ ω, flR f a ν ω → Q 1 ω) (h0 : ¬ isKw T n i a → Q 0 ν) : tX11_begins i s f ν Q := by
  intro _ _ _
  refine r_isw t h13 (fun k _ _ => ⟨fun _ => ⟨fun s1 => ⟨fun z => absurd h13 z, fun _ => r_nx7 t (fun ω r u _ => h1 k s1 ω r u)⟩, fun s0 => ?_⟩, fun z => absurd z (by decide)⟩) (fun k _ _ => ⟨fun z => absurd z (by decide), fun _ => h0 k⟩)
  rw [t.2.2.1]
  exact r_wrong h13 (fun ω fl _ => ⟨fun _ => h2 k s0 ω fl, fun z => absurd z fl.d⟩)
theorem r_line7 {T : Nat → Int} {n a : Nat} {X : Nat → Int} {ν : xM} {Q : xM → Prop} (h : rD T n X a ν) (hq : ∀ ω, oR T n ν (lineP T n X a) ω → Q ω) : tX11_readLine ν Q := by
  obtain ⟨ok, h64, t, h13⟩ := h
  have x0 := h64 0 (by omega)
  have x3 := h64 3 (by omega)
  have x5 := h64 5 (by omega)
  have x8 := h64 321 (by omega)
  have go : ∀ o : pO, lineP T n X a = o → ∀ χ, gR ν χ → ∀ ω, oR T n χ o ω → xRan ω → Q ω := fun o e χ g ω h _ => hq ω (by rw [e]; exact h.p g)
  have live : ∀ ω, rS ν ω → tR T n (nxF T n a) ω → rD T n X (nxF T n a) ω := fun ω s u => ⟨ok, h64.s s, u, s.g.z h13⟩
  have b134 : ¬ isKw T n 0 a → ¬ isKw T n 7 a → ¬ isKw T n 10 a → ¬ isKw T n 11 a → ∀ s2 : Int, (s2 = 0 ∧ X 321 ≠ 0) ∨ (s2 = 1 ∧ X 321 = 0) → tX11_readLine_b134 s2 ν Q := by
    intro q0 q1 q2 q3 s2 hs _
    have e4 : lineP T n X a = _ := (cI_n q0).trans ((cI_n q1).trans ((cI_n q2).trans (cI_n q3)))
    refine ⟨by omega, r_begins t h13 (fun k s1 ω s u _ _ => ⟨fun z => absurd z (by decide), fun _ => r_seen7 (live ω s u) (by omega) (go _ (e4.trans (cI_y k)) ω s.g)⟩) (fun k s0 ω fl _ _ => ⟨fun z => absurd z (by decide), fun _ _ => ⟨fun z => absurd z fl.d, fun _ _ => hq ω (oR_bd ((e4.trans (cI_y k)).trans (cI_y (by omega))) fl)⟩⟩) (fun k _ _ => ⟨fun _ => ?_, fun z => absurd z (by decide)⟩)⟩
    rw [t.2.2.1]
    exact r_wrong h13 (fun ω fl _ => hq ω (oR_bd (e4.trans (cI_n k)) fl))
  have b101 : ¬ isKw T n 0 a → ¬ isKw T n 7 a → ¬ isKw T n 10 a → ∀ s2 : Int, (s2 = 0 ∧ 6 ≤ X 5) ∨ (s2 = 1 ∧ ¬ 6 ≤ X 5) → tX11_readLine_b101 s2 ν Q := by
    intro q0 q1 q2 s2 hs _
    have e3 : lineP T n X a = _ := (cI_n q0).trans ((cI_n q1).trans (cI_n q2))
    refine ⟨by omega, r_begins t h13 (fun k s1 ω s u _ _ => ⟨fun z => absurd z (by decide), fun _ => r_likely7 (live ω s u) (by omega) (go _ (e3.trans (cI_y k)) ω s.g)⟩) (fun k s0 ω fl _ _ => ⟨fun z => absurd z (by decide), fun _ _ => ⟨fun z => absurd z fl.d, fun _ _ => hq ω (oR_bd ((e3.trans (cI_y k)).trans (cI_y (by omega))) fl)⟩⟩) (fun k _ _ => ⟨fun _ => ?_, fun z => absurd z (by decide)⟩)⟩
    rw [x8]
    exact ⟨fun z => b134 q0 q1 q2 k 0 (Or.inl ⟨rfl, z⟩), fun z => b134 q0 q1 q2 k 1 (Or.inr ⟨rfl, z⟩)⟩
  have b50 : ¬ isKw T n 0 a → ∀ s2 : Int, (s2 = 0 ∧ 24 ≤ X 3) ∨ (s2 = 1 ∧ ¬ 24 ≤ X 3) → tX11_readLine_b50 s2 ν Q := by
    intro q0 s2 hs _
    have e1 : lineP T n X a = _ := cI_n q0
    refine ⟨by omega, r_begins t h13 (fun k s1 ω s u _ _ => ⟨fun z => absurd z (by decide), fun _ => r_word7 (live ω s u) (by omega) (go _ (e1.trans (cI_y k)) ω s.g)⟩) (fun k s0 ω fl _ _ => ⟨fun z => absurd z (by decide), fun _ _ => ⟨fun z => absurd z fl.d, fun _ _ => hq ω (oR_bd ((e1.trans (cI_y k)).trans (cI_y (by omega))) fl)⟩⟩) (fun k _ _ => ⟨fun _ => ?_, fun z => absurd z (by decide)⟩)⟩
    refine r_begins t h13 (fun k2 s1 ω s u _ _ => ⟨fun z => absurd z (by decide), fun _ => r_guest7 (live ω s u) (go _ (e1.trans ((cI_n k).trans (cI_y k2))) ω s.g)⟩) (fun k2 s0 ω fl _ _ => absurd s0 (by decide)) (fun k2 _ _ => ⟨fun _ => ?_, fun z => absurd z (by decide)⟩)
    rw [x5]
    exact ⟨fun z => b101 q0 k k2 0 (Or.inl ⟨rfl, z⟩), fun z => b101 q0 k k2 1 (Or.inr ⟨rfl, z⟩)⟩
  have b17 : ∀ s2 : Int, (s2 = 0 ∧ X 0 ≠ 0) ∨ (s2 = 1 ∧ X 0 = 0) → tX11_readLine_b17 s2 ν Q := by
    intro s2 hs _
    refine ⟨by omega, r_begins t h13 (fun k s1 ω s u _ _ => ⟨fun z => absurd z (by decide), fun _ => r_house7 (live ω s u) (by omega) (go _ (cI_y k) ω s.g)⟩) (fun k s0 ω fl _ _ => ⟨fun z => absurd z (by decide), fun _ _ => ⟨fun z => absurd z fl.d, fun _ _ => hq ω (oR_bd ((show lineP T n X a = _ from cI_y k).trans (cI_y (by omega))) fl)⟩⟩) (fun k _ _ => ⟨fun _ => ?_, fun z => absurd z (by decide)⟩)⟩
    rw [x3]
    exact ⟨fun z => b50 k 0 (Or.inl ⟨rfl, z⟩), fun z => b50 k 1 (Or.inr ⟨rfl, z⟩)⟩
  intro _
  rw [x0]
  exact ⟨fun z => b17 0 (Or.inl ⟨rfl, z⟩), fun z => b17 1 (Or.inr ⟨rfl, z⟩)⟩
