/-! the reference reads guests -/
theorem d_b82 {b2 : Int} {ν : xM} {Q : xM → Prop} {J : Int → xM → Prop} (h : ν 260 13 ≠ 0) (hq : Q ν) : tX11_guestLine_b82 b2 ν Q J := fun _ => ⟨fun z => absurd z h, fun _ => hq⟩
theorem d_b60 {b2 : Int} {ν : xM} {Q : xM → Prop} {J : Int → xM → Prop} (h : ν 260 13 ≠ 0) (hq : Q ν) : tX11_guestLine_b60 b2 ν Q J := fun _ => ⟨fun _ => d_b82 h hq, fun z => absurd z h⟩
theorem r64_guest {T : Nat → Int} {b g len : Nat} {X Y : Nat → Int} {ω : xM} (m : mG T b g len X Y) (h4 : ω 264 4 = (g : Int) + 1) (h2 : ω 264 (223 + g) = len) (hf : ω 264 (295 + g) = T b - 97) (hl : ∀ i, i < len → ω 264 (231 + 8 * g + i) = T (b + i)) (ho : ∀ k, k < 322 → k ≠ 4 → k ≠ 223 + g → k ≠ 295 + g → ¬ (231 + 8 * g ≤ k ∧ k < 231 + 8 * g + len) → ω 264 k = X k) : r64 Y ω := by
  obtain ⟨e4, e2, ef, el, eo⟩ := m
  intro k hk
  by_cases c3 : k = 4
  · rw [c3, h4, e4]
  by_cases c7 : k = 223 + g
  · rw [c7, h2, e2]
  by_cases cv : k = 295 + g
  · rw [cv, hf, ef]
  by_cases cl : 231 + 8 * g ≤ k ∧ k < 231 + 8 * g + len
  · rw [show k = 231 + 8 * g + (k - (231 + 8 * g)) by omega, hl _ (by omega), el _ (by omega)]
  · rw [ho k hk c3 c7 cv cl, eo k c3 c7 cv cl]
theorem r_comma7 {T : Nat → Int} {n a : Nat} {ν : xM} {Q : Int → xM → Prop} (t : tR T n a ν) (h13 : ν 260 13 = 0) (h1 : tkK T n a = 4 → ∀ ω, rS ν ω → tR T n (nxF T n a) ω → Q 1 ω) (h0 : tkK T n a ≠ 4 → Q 0 ν) : tX11_comma ν Q := by
  have rc := rc_i T n a
  intro _
  rw [t.2.2.2.2.1]
  exact ⟨fun z => absurd h13 z, fun _ => ⟨fun z => r_nx7 t (fun ω s u _ => h1 (rc.2.2.1.1 z) ω s u), fun z => h0 (fun q => z (rc.2.2.1.2 q))⟩⟩
theorem r_guest7 {T : Nat → Int} {n a : Nat} {X : Nat → Int} {ν : xM} {Q : xM → Prop} (h : rD T n X (nxF T n a) ν) (hq : ∀ ω, oR T n ν (guestP T n (9 - X 4).toNat X a) ω → Q ω) : tX11_guestLine ν Q := by
  have h13 := h.2.2.2
  intro _
  refine ⟨fun z => absurd h13 z, fun _ => ?_⟩
  refine ⟨fun m l ω => (l = 0 ∧ oR T n ν (guestP T n (9 - X 4).toNat X a) ω) ∨ (l = 1 ∧ ∃ (Y : Nat → Int) (a' : Nat), rD T n Y (nxF T n a') ω ∧ gR ν ω ∧ m = (9 - Y 4).toNat ∧ guestP T n m Y a' = guestP T n (9 - X 4).toNat X a), ⟨_, Or.inr ⟨rfl, X, a, h, gR.rf ν, rfl, rfl⟩⟩, ?_⟩
  rintro m l ω (⟨rfl, ho⟩ | ⟨rfl, Y, a', ⟨ok, h64, t, z13⟩, gY, rfl, eY⟩) _
  · exact ⟨⟨by decide, by decide⟩, fun _ => hq ω ho, fun z => absurd rfl z⟩
  have b4 := ok.2.2.1
  obtain ⟨g, hg⟩ : ∃ g : Nat, Y 4 = g := ⟨(Y 4).toNat, by omega⟩
  have e0 := eY.symm
  rw [show (9 - Y 4).toNat = (8 - Y 4).toNat + 1 by omega, guestP_s] at e0
  obtain ⟨b, eb⟩ : ∃ b, b = nxF T n a' := ⟨_, rfl⟩
  rw [← eb] at t e0
  have y4 : ω 264 4 = g := by rw [h64 4 (by omega)]; exact hg
  refine ⟨⟨by decide, by decide⟩, fun z => absurd z (by decide), fun _ => r_mw7 t z13 (fun k1 _ => ⟨fun z => absurd z13 z, fun _ => ?_⟩) (fun k1 χ fl _ => ⟨fun _ => d_b60 fl.d (hq χ (oR_bd (e0.trans (cI_n k1)) (fl.p gY))), fun z => absurd z fl.d⟩)⟩
  have e1 := e0.trans (cI_y k1)
  have wr := wrd_in k1
  have tl := tkS7_le (T := T) t.2.1
  have n9 := t.1.1
  have tb := wr.2.2.2 0 (by omega)
  rw [Nat.add_zero] at tb
  obtain ⟨w8, wl8⟩ := t.2.2.2.2.2.1 k1
  rw [y4]
  refine r_find7 (c := g) (q := 223) (s := 231) (w := 8) (P := nmG T n Y b) t h64 k1 (by omega) (by omega) (fun x hx => ?_) (fun x hx => Iff.rfl) (fun _ _ => ?_)
  · have := ok.2.2.2.2.2.2.2.2.2.2 x (by omega); omega
  have ef : scanF (nmG T n Y b) (fun w => (w : Int)) g 0 = nmF T n Y b := by unfold nmF; rw [hg]; rfl
  rw [ef]
  by_cases f0 : 0 ≤ nmF T n Y b
  · rw [t.2.2.1]
    exact ⟨fun z => by omega, fun _ => r_wrong z13 (fun χ fl _ => d_b60 fl.d (hq χ (oR_bd (e1.trans (cI_y f0)) (fl.p gY))))⟩
  have e2 := e1.trans (cI_n f0)
  refine ⟨fun _ _ => ⟨fun z => absurd z13 z, fun _ => ⟨⟨by omega, by omega⟩, ?_⟩⟩, fun z => by omega⟩
  rw [t.2.2.1]
  by_cases g8 : 8 ≤ Y 4
  · exact ⟨fun z => absurd (by omega) z, fun _ => r_wrong z13 (fun χ fl _ => d_b82 fl.d (hq χ (oR_bd (e2.trans (cI_y g8)) (fl.p gY))))⟩
  have e3 := e2.trans (cI_n g8)
  refine ⟨fun _ _ => ⟨fun _ => ?_, fun z => absurd z13 z⟩, fun z => by omega⟩
  refine up1 (n := (tkS7 T n b : Int) - b) (fun l χ => gR ν χ ∧ tR T n b χ ∧ (∀ i : Nat, (i : Int) < l → χ 264 (231 + 8 * g + i) = T (b + i)) ∧ ∀ k, k < 322 → ¬ (231 + 8 * g ≤ k ∧ (k : Int) < 231 + 8 * g + l) → χ 264 k = Y k) (by omega) ⟨gY, t, fun i hi => by omega, fun k hk _ => h64 k hk⟩ ?_
  rintro l χ K l0 l1 ⟨go, to, hl, ho⟩ _ hK
  obtain ⟨l, rfl⟩ : ∃ m : Nat, l = m := ⟨l.toNat, by omega⟩
  obtain ⟨o8, ol8⟩ := to.2.2.2.2.2.1 k1
  rw [o8]
  refine ⟨⟨by omega, by omega⟩, fun z => ⟨⟨by omega, by omega⟩, wl fun _ => ?_⟩, fun z => ⟨⟨by omega, by omega⟩, ⟨by omega, by omega⟩, wl fun _ => hK _ (by omega) ⟨go.w, to.w, fun i hi => ?_, fun k hk hn => ?_⟩⟩⟩
  rotate_left
  · rw [show (231 + 8 * (g : Int) + (l : Int)).toNat = 231 + 8 * g + l by omega, Int.toNat_natCast, ol8 l (by omega)]
    by_cases y : i = l
    · rw [y, wi_self]
    · rw [wi_place (by omega)]; exact hl i (by omega)
  · rw [show (231 + 8 * (g : Int) + (l : Int)).toNat = 231 + 8 * g + l by omega, wi_place (by omega)]; exact ho k hk (by omega)
  rw [show (223 + (g : Int)).toNat = 223 + g by omega, show (295 + (g : Int)).toNat = 295 + g by omega]
  have c0 : wi χ 264 (223 + g) ((tkS7 T n b : Int) - b) 262 0 = T b := by rw [wi_cell (by omega)]; exact ol8 0 (by omega)
  rw [c0]
  refine ⟨⟨by omega, by omega⟩, ⟨by omega, by omega⟩, wl fun _ => ?_⟩
  rw [show wi (wi χ 264 (223 + g) ((tkS7 T n b : Int) - b)) 264 (295 + g) (T b - 97) 264 4 = g by rw [wi_place (by omega), wi_place (by omega), ho 4 (by omega) (by omega)]; exact hg]
  have mm := mG_add (T := T) (n := n) (b := b) hg (by omega) tl.1 wr.2.2.1
  refine ⟨⟨by omega, by omega⟩, wl fun _ => r_nx7 to.w.w.w (fun ω1 s1 t1 _ => ?_)⟩
  have g1 := (go.w.w.w (j := 4) (v := (g : Int) + 1)).tt s1.g
  have F : ∀ k, ω1 264 k = _ := fun k => congrFun (s1.1 264 (by omega) (by omega)) k
  have r1 : r64 (addG T n Y b) ω1 := by
    refine r64_guest mm ?_ ?_ ?_ (fun i hi => ?_) (fun k hk a1 a2 a3 a4 => ?_)
    · rw [F, wi_self]
    · rw [F, wi_place (by omega), wi_place (by omega), wi_self]; omega
    · rw [F, wi_place (by omega), wi_self]
    · rw [F, wi_place (by omega), wi_place (by omega), wi_place (by omega)]; exact hl i (by omega)
    · rw [F, wi_place a1, wi_place a3, wi_place a2]; exact ho k hk (by omega)
  have ok1 := okP_guest ok mm hg (by omega) (by omega) (by omega) tb
  refine r_comma7 t1 (g1.z h13) (fun k4 ω2 s2 t2 _ _ => ⟨(8 - Y 4).toNat, by omega, Or.inr ⟨rfl, addG T n Y b, nxF T n b, ⟨ok1, r1.s s2, t2, (g1.tt s2.g).z h13⟩, g1.tt s2.g, by rw [mm.1]; omega, (e3.trans (cI_y k4)).symm⟩⟩) (fun k4 _ _ => ⟨0, by omega, Or.inl ⟨rfl, oR_ok (e3.trans (cI_n k4)) g1 ok1 r1 t1 (g1.z h13)⟩⟩)
/-! the reference reads likely -/
theorem okP_likely {i : Nat} {x v : Int} {X Y : Nat → Int} (h : okP X) (m : mL i x v X Y) (hi : X 5 = i) (i6 : i < 6) (bx : 0 ≤ x ∧ x ≤ 25) (bv : 1 ≤ v ∧ v ≤ 9) : okP Y := by
  obtain ⟨e5, ex, ev, eo⟩ := m
  obtain ⟨a0, a3, a4, a5, a6, aw, ag, al, as, ab, am⟩ := h
  have o := fun k (h1 : k ≠ 5 ∧ (k < 303 ∨ 315 ≤ k)) => eo k (by omega) (by omega) (by omega)
  refine ⟨?_, by rw [o 3 (by omega)]; exact a3, by rw [o 4 (by omega)]; exact a4, ⟨by omega, by omega⟩, by rw [o 6 (by omega)]; exact a6, fun w hw => ?_, fun w hw => ?_, fun w hw => ?_, fun w hw => ?_, fun w hw hy => ?_, fun w hw => ?_⟩
  · rw [o 0 (by omega), o 1 (by omega), o 2 (by omega)]; exact a0
  · rw [o 3 (by omega)] at hw
    have fx := aw w hw
    rw [o (7 + w) (by omega), o (175 + w) (by omega), o (199 + w) (by omega)]
    refine ⟨fx.1, fx.2.1, fx.2.2.1, fun i hi => ?_⟩
    rw [o (31 + 6 * w + i) (by omega)]; exact fx.2.2.2 i hi
  · rw [o 4 (by omega)] at hw
    rw [o (295 + w) (by omega)]; exact ag w hw
  · by_cases y : w = i
    · rw [y, ex, ev]; exact ⟨bx, bv⟩
    · rw [eo (303 + w) (by omega) (by omega) (by omega), eo (309 + w) (by omega) (by omega) (by omega)]; exact al w (by omega)
  · rw [o 6 (by omega)] at hw
    rw [o (315 + w) (by omega), o 3 (by omega)]; exact as w hw
  · rw [o 3 (by omega)] at hy
    rw [o (199 + w) (by omega)]; exact ab w hw hy
  · rw [o 4 (by omega)] at hw
    rw [o (223 + w) (by omega)]; exact am w hw
theorem d_b119 {b1 : Int} {ν : xM} {Q : xM → Prop} (h : ν 260 13 ≠ 0) (hq : Q ν) : tX11_likelyLine_b119 b1 ν Q := fun _ => ⟨fun z => absurd z h, fun _ => hq⟩
theorem d_b95 {b1 : Int} {ν : xM} {Q : xM → Prop} (h : ν 260 13 ≠ 0) (hq : Q ν) : tX11_likelyLine_b95 b1 ν Q := fun _ => ⟨fun _ => d_b119 h hq, fun z => absurd z h⟩
theorem r_likely7 {T : Nat → Int} {n a : Nat} {X : Nat → Int} {ν : xM} {Q : xM → Prop} (h : rD T n X (nxF T n a) ν) (x5 : ¬ 6 ≤ X 5) (hq : ∀ ω, oR T n ν (likelyP T n X a) ω → Q ω) : tX11_likelyLine ν Q := by
  obtain ⟨ok, h64, t, h13⟩ := h
  have b5 := ok.2.2.2.1
  obtain ⟨i, hi⟩ : ∃ w : Nat, X 5 = w := ⟨(X 5).toNat, by omega⟩
  have e0 : likelyP T n X a = _ := cI_n x5
  obtain ⟨b, eb⟩ : ∃ b, b = nxF T n a := ⟨_, rfl⟩
  rw [← eb] at t e0
  have x264 : ν 264 5 = i := by rw [h64 5 (by omega)]; exact hi
  intro _
  rw [x264]
  refine ⟨fun _ => r_mw7 t h13 (fun k1 _ => ⟨fun _ => ?_, fun z => absurd h13 z⟩) (fun k1 ω fl _ => ⟨fun z => absurd z fl.d, fun _ => hq ω (oR_bd (e0.trans (cI_n k1)) fl)⟩), fun z => absurd h13 z⟩
  have e1 := e0.trans (cI_y k1)
  have wr := wrd_in k1
  have tl := tkS7_le (T := T) t.2.1
  have n9 := t.1.1
  have tb := wr.2.2.2 0 (by omega)
  rw [Nat.add_zero] at tb
  obtain ⟨w8, wl8⟩ := t.2.2.2.2.2.1 k1
  have c0 : ν 262 0 = T b := wl8 0 (by omega)
  refine rd2b (n := (i : Int)) (fun l f => (f = 0 ∧ (tkS7 T n b ≤ b + 1 → ∀ k : Nat, (k : Int) < l → X (303 + k) ≠ T b - 97)) ∨ (f = 1 ∧ tkS7 T n b ≤ b + 1 ∧ ∃ k : Nat, (k : Int) < X 5 ∧ X (303 + k) = T b - 97)) (by omega) (Or.inl ⟨rfl, fun _ k hk => by omega⟩) ?_
  rintro l f K l0 l1 hl hK
  obtain ⟨l, rfl⟩ : ∃ m : Nat, l = m := ⟨l.toNat, by omega⟩
  rw [t.2.2.1, w8, c0]
  refine ⟨⟨by omega, by omega⟩, fun z => ⟨by rcases hl with r | r <;> exact ⟨by omega, by omega⟩, fun f0 => ?_, fun f0 => ?_⟩, fun z => ⟨by rcases hl with r | r <;> exact ⟨by omega, by omega⟩, fun f0 => hK 1 (by omega) (Or.inr (hl.resolve_left (fun r => f0 r.1) |> fun r => ⟨rfl, r.2⟩)), fun f0 => ⟨fun ne => hK 0 (by omega) (Or.inl ⟨rfl, fun y => by omega⟩), fun eq => ⟨⟨by omega, by omega⟩, ⟨by omega, by omega⟩, ?_⟩⟩⟩⟩
  rotate_left 2
  · rw [show (303 + (l : Int)).toNat = 303 + l by omega, h64 (303 + l) (by omega)]
    have hl1 := (hl.resolve_right (fun r => by omega)).2 (by omega)
    refine ⟨fun q => hK 0 (by omega) (Or.inl ⟨rfl, fun _ k hk => ?_⟩), fun q => hK 1 (by omega) (Or.inr ⟨rfl, by omega, l, by omega, q⟩)⟩
    by_cases y : k = l
    · rw [y]; exact q
    · exact hl1 k (by omega)
  · have hl1 := (hl.resolve_right (fun r => by omega)).2
    intro _
    rw [w8, t.2.2.1]
    refine ⟨fun z => absurd h13 z, fun _ => ⟨fun lb _ => ⟨fun _ => ⟨⟨by omega, by omega⟩, ?_⟩, fun z => absurd h13 z⟩, fun lb => r_wrong h13 (fun ω fl _ => d_b119 fl.d (hq ω (oR_bd (e1.trans (cI_n (by omega))) fl)))⟩⟩
    have e2 := e1.trans (cI_y (by omega))
    have e3 := e2.trans (cI_n (by rintro ⟨k, q1, q2⟩; exact hl1 (by omega) k (by omega) q2))
    rw [c0, show (303 + (i : Int)).toNat = 303 + i by omega, show (309 + (i : Int)).toNat = 309 + i by omega]
    refine ⟨⟨by omega, by omega⟩, wl fun _ => r_nx7 t.w (fun ω1 s1 t1 _ => ?_)⟩
    have g1 := ((gR.rf ν).w (j := 303 + i) (v := T b - 97)).tt s1.g
    refine r_num7 t1 (g1.z h13) (fun ω2 s2 t2 l2 m2 k2 _ _ => ⟨⟨by omega, by omega⟩, wl fun _ => ⟨fun z => absurd ((g1.tt s2.g).w.z h13) z, fun _ => ?_⟩⟩) (fun χ f fl k2 _ _ => ⟨⟨by omega, by omega⟩, wl fun _ => ⟨fun _ => hq _ (oR_bd (e3.trans k2) (fl.w.p g1)), fun z => absurd z fl.w.d⟩⟩)
    have F := ((h64.w (j := 303 + i) (v := T b - 97)).s s1).s s2 |>.w (j := 309 + i) (v := wvl T n (nxF T n b))
    have F5 : wi ω2 264 (309 + i) (wvl T n (nxF T n b)) 264 5 = i := by rw [F 5 (by omega), up_ne (by omega), up_ne (by omega)]; exact hi
    rw [F5]
    have ml := mL_add (x := T b - 97) (v := wvl T n (nxF T n b)) hi (by omega)
    refine ⟨⟨by omega, by omega⟩, wl fun _ => hq _ (oR_ok (e3.trans k2) ((g1.tt s2.g).w.w) (okP_likely ok ml hi (by omega) ⟨by omega, by omega⟩ ⟨l2, m2⟩) ?_ t2.w.w (((g1.tt s2.g).w.w).z h13))⟩
    have F6 := F.w (j := 5) (v := (i : Int) + 1)
    rw [hi, Int.toNat_natCast]; exact F6
  · have hl1 := hl.resolve_left (fun r => f0 r.1)
    have e2 := e1.trans (cI_y hl1.2.1)
    exact r_wrong h13 (fun ω fl _ => d_b95 fl.d (hq ω (oR_bd (e2.trans (cI_y hl1.2.2)) fl)))
