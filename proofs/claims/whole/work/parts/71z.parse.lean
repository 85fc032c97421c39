/-! the class reads likely and seen -/
def mL (i : Nat) (x v : Int) (X Y : Nat → Int) : Prop := Y 5 = (i : Int) + 1 ∧ Y (303 + i) = x ∧ Y (309 + i) = v ∧ ∀ k, k ≠ 5 → k ≠ 303 + i → k ≠ 309 + i → Y k = X k
theorem mL_add {i : Nat} {x v : Int} {X : Nat → Int} (hi : X 5 = i) (i6 : i < 6) : mL i x v X (up (up (up X (303 + (X 5).toNat) x) (309 + (X 5).toNat) v) 5 (X 5 + 1)) := by
  rw [hi, Int.toNat_natCast]
  refine ⟨up_self _ _ _, ?_, ?_, fun k a b c => ?_⟩
  · rw [up_ne (by omega), up_ne (by omega), up_self]
  · rw [up_ne (by omega), up_self]
  · rw [up_ne a, up_ne c, up_ne b]
theorem cD_likely {T : Nat → Int} {n i : Nat} {x v : Int} {X Y : Nat → Int} {ν ω : xM} (c : cD T n X ν) (m : mL i x v X Y) (hi : X 5 = i) (i6 : i < 6) (bx : 0 ≤ x ∧ x ≤ 25) (bv : 1 ≤ v ∧ v ≤ 9)
    (f : ∀ k, k ≠ 1 → k ≠ 32 → k ≠ 33 → k ≠ 35 → ω k = ν k) (f1 : ∀ j, j ≠ 5 → ω 1 j = ν 1 j) (g1 : ω 1 5 = (i : Int) + 1) (f2 : ∀ j, j ≠ i → ω 32 j = ν 32 j ∧ ω 33 j = ν 33 j) (g2 : ω 32 i = x ∧ ω 33 i = v) (f7 : ω 35 7 = ν 35 7 ∧ ω 35 8 = ν 35 8) : cD T n Y ω := by
  obtain ⟨e5, ex, ev, eo⟩ := m
  obtain ⟨⟨a0, a3, a4, a5, a6, aw, ag, al, as, ab, am⟩, c1, c2, c3, c4, c5, c6, c7, c8⟩ := c
  have o := fun k (h1 : k ≠ 5 ∧ (k < 303 ∨ 315 ≤ k)) => eo k (by omega) (by omega) (by omega)
  refine ⟨⟨fun z => ?_, by rw [o 3 (by omega)]; exact a3, by rw [o 4 (by omega)]; exact a4, ⟨by omega, by omega⟩, by rw [o 6 (by omega)]; exact a6, fun w hw => ?_, fun w hw => ?_, fun w hw => ?_, fun w hw => ?_, fun w hw hy => ?_, fun w hw => ?_⟩, fun j h3 h7 => ?_, ?_, ?_, ?_, fun w hw => ?_, fun w hw => ?_, fun w hw => ?_, fun w hw => ?_⟩
  · rw [o 0 (by omega)] at z
    rw [o 0 (by omega), o 1 (by omega), o 2 (by omega)]; exact a0 z
  · rw [o 3 (by omega)] at hw
    have fx := aw w hw
    rw [o (7 + w) (by omega), o (175 + w) (by omega), o (199 + w) (by omega)]
    refine ⟨fx.1, fx.2.1, fx.2.2.1, fun i hi => ?_⟩
    rw [o (31 + 6 * w + i) (by omega)]; exact fx.2.2.2 i hi
  · rw [o 4 (by omega)] at hw
    rw [o (295 + w) (by omega)]; exact ag w hw
  · by_cases y : w = i
    · rw [y, ex, ev]; exact ⟨bx, bv⟩
    · rw [eo (303 + w) (by omega) (by omega) (by omega), eo (309 + w) (by omega) (by omega) (by omega)]; exact al w (by omega)
  · rw [o 6 (by omega)] at hw
    rw [o (315 + w) (by omega), o 3 (by omega)]; exact as w hw
  · rw [o 3 (by omega)] at hy
    rw [o (199 + w) (by omega)]; exact ab w hw hy
  · rw [o 4 (by omega)] at hw
    rw [o (223 + w) (by omega)]; exact am w hw
  · by_cases y : j = 5
    · rw [y, g1, e5]
    · rw [f1 j y, o j (by omega)]; exact c1 j h3 h7
  · rw [o 0 (by omega), o 1 (by omega), o 2 (by omega), f1 0 (by omega), f1 1 (by omega), f1 2 (by omega)]; exact c2
  · rw [o 0 (by omega), f7.1]; exact c3
  · rw [o 321 (by omega), f7.2]; exact c4
  · rw [o 3 (by omega)] at hw
    have fx := c5 w hw
    have ox := aw w hw
    rw [f 2 (by omega) (by omega) (by omega) (by omega), f 3 (by omega) (by omega) (by omega) (by omega), f 30 (by omega) (by omega) (by omega) (by omega), f (5 + w) (by omega) (by omega) (by omega) (by omega), o (7 + w) (by omega), o (175 + w) (by omega), o (199 + w) (by omega)]
    refine ⟨fx.1, fx.2.1, fx.2.2.1, fun i hi => ?_⟩
    rw [fx.2.2.2 i hi, o (31 + 6 * w + i) (by omega)]
  · rw [o 4 (by omega)] at hw
    have m8 := am w hw
    obtain ⟨r, s, e, q1, q2, q3, q4, q5, q6⟩ := c6 w hw
    rw [f 31 (by omega) (by omega) (by omega) (by omega), f 37 (by omega) (by omega) (by omega) (by omega), f 38 (by omega) (by omega) (by omega) (by omega), o (295 + w) (by omega), o (223 + w) (by omega)]
    exact ⟨r, s, e, q1, q2, q3, q4, q5, fun i hi => by rw [o (231 + 8 * w + i) (by omega)]; exact q6 i hi⟩
  · by_cases y : w = i
    · rw [y, ex, ev]; exact g2
    · rw [(f2 w y).1, (f2 w y).2, eo (303 + w) (by omega) (by omega) (by omega), eo (309 + w) (by omega) (by omega) (by omega)]; exact c7 w (by omega)
  · rw [o 6 (by omega)] at hw
    rw [f 34 (by omega) (by omega) (by omega) (by omega), o (315 + w) (by omega)]; exact c8 w hw
theorem s_likely7 {T : Nat → Int} {n a : Nat} {X : Nat → Int} {ν : xM} {Q : Int → xM → Prop} (c : cD T n X ν) (t : tC T n a ν) (hq : ∀ r ω, oC T n ν (likelyP T n X a) r ω → Q r ω) : tX5_readLikely ν Q := by
  have b5 := c.1.2.2.2.1
  obtain ⟨i, hi⟩ : ∃ w : Nat, X 5 = w := ⟨(X 5).toNat, by omega⟩
  have e5 : ν 1 5 = i := by rw [c.2.1 5 (by omega) (by omega)]; exact hi
  intro _
  rw [e5]
  by_cases x5 : 6 ≤ X 5
  · exact ⟨fun z => by omega, fun _ => s_fl7 t.2.2.1 (fun ω f _ _ => hq 0 ω (oC_bd (cI_y x5) f))⟩
  have e0 : likelyP T n X a = _ := cI_n x5
  refine ⟨fun _ => s_nx7 t (fun ω1 s1 t1 _ => ?_), fun z => by omega⟩
  obtain ⟨b, eb⟩ : ∃ b, b = nxF T n a := ⟨_, rfl⟩
  rw [← eb] at t1 e0
  have c1 := c.n s1.T
  have g1 := s1.T.g
  have n9 := t1.1.1
  have tl := tkS7_le (T := T) t1.2.1
  rw [t1.2.2.2.2]
  by_cases k1 : tkK T n b = 1
  rotate_left
  · exact ⟨fun z => absurd z k1, fun _ => s_fl7 t1.2.2.1 (fun ω f _ _ => hq 0 ω (oC_bd (e0.trans (cI_n k1)) (f.p g1.1)))⟩
  have e1 := e0.trans (cI_y k1)
  have wr := wrd_in k1
  have tb := wr.2.2.2 0 (by omega)
  rw [Nat.add_zero] at tb
  rw [t1.2.2.1, t1.2.2.2.1]
  refine ⟨fun _ => ⟨⟨by omega, by omega⟩, fun l1 => ?_, fun l1 => s_fl7 t1.2.2.1 (fun ω f _ _ => hq 0 ω (oC_bd (e1.trans (cI_n (by omega))) (f.p g1.1)))⟩, fun z => absurd k1 z⟩
  have e2 := e1.trans (cI_y (by omega))
  refine s_byte t1.1 wr.1 (fun _ _ => ?_)
  have w5 : ω1 1 5 = i := by rw [c1.2.1 5 (by omega) (by omega)]; exact hi
  refine rd1 (n := X 5) (fun l => ∀ k : Nat, (k : Int) < l → X (303 + k) ≠ T b - 97) (by omega) (fun k hk => by omega) ?_
  rintro l K l0 l1 hl hK
  obtain ⟨l, rfl⟩ : ∃ m : Nat, l = m := ⟨l.toNat, by omega⟩
  rw [w5]
  refine ⟨⟨by omega, by omega⟩, fun z => ?_, fun z _ _ => ?_⟩
  · have e3 := e2.trans (cI_n (by rintro ⟨k, k1, k2⟩; exact hl k (by omega) k2))
    refine s_nx7 t1 (fun ω2 s2 t2 _ => s_whole t2 (fun ω3 s3 t3 l3 m3 n3 k3 _ _ => ⟨fun _ => ⟨⟨by omega, by omega⟩, fun _ _ _ => ?_⟩, fun z => absurd z (by decide)⟩) (fun ω x f k3 _ _ => ⟨fun z => absurd z (by decide), fun _ => hq 0 ω (oC_bd (e3.trans k3) (f.p (g1.tt s2.T.g).1))⟩))
    have w6 : ω3 1 5 = i := by rw [s3.1 1 (by omega), s2.1 1 (by omega)]; exact w5
    rw [w6, n3]
    refine ⟨fun z => by omega, fun _ => ⟨⟨by omega, by omega⟩, wl fun _ => ?_⟩⟩
    rw [Int.toNat_natCast, show wi ω3 (1 + 31) i (T b - 97) 1 5 = i by rw [wi_cell (by omega)]; exact w6]
    refine ⟨⟨by omega, by omega⟩, wl fun _ => ?_⟩
    rw [Int.toNat_natCast, show wi (wi ω3 (1 + 31) i (T b - 97)) (1 + 32) i (wvl T n (nxF T n b)) 1 5 = i by rw [wi_cell (by omega), wi_cell (by omega)]; exact w6]
    refine ⟨⟨by omega, by omega⟩, wl fun _ _ => hq 1 _ (oC_ok (e3.trans k3) (((((g1.tt s2.T.g).tt s3.g).w (by omega)).w (by omega)).w (by omega)) (cD_likely (c1.n (s2.T.tt s3)) (mL_add hi (by omega)) hi (by omega) ⟨by omega, by omega⟩ ⟨l3, m3⟩ (fun k a1 a2 a3 a4 => ?_) (fun j hj => ?_) ?_ (fun j hj => ⟨?_, ?_⟩) ⟨?_, ?_⟩ ⟨?_, ?_⟩) (((t3.w (by omega)).w (by omega)).w (by omega)))⟩
    · funext j; rw [wi_cell a1, wi_cell (by omega), wi_cell (by omega)]
    · rw [wi_place hj, wi_cell (by omega), wi_cell (by omega)]
    · rw [wi_self]
    · rw [wi_cell (by omega), wi_cell (by omega)]; exact wi_place (k := 32) hj
    · rw [wi_cell (by omega), wi_place (k := 33) hj, wi_cell (by omega)]
    · rw [wi_cell (by omega), wi_cell (by omega)]; exact wi_self _ 32 _ _
    · rw [wi_cell (by omega)]; exact wi_self _ 33 _ _
    · rw [wi_cell (by omega), wi_cell (by omega), wi_cell (by omega)]
    · rw [wi_cell (by omega), wi_cell (by omega), wi_cell (by omega)]
  · rw [w5]
    have cl : ω1 (1 + 31) (l : Int).toNat = X (303 + l) := (c1.2.2.2.2.2.2.2.1 l (by omega)).1
    refine ⟨fun z => by omega, fun _ => ⟨fun z => by omega, fun _ => ⟨fun z => by omega, fun _ => ⟨⟨by omega, by omega⟩, fun _ _ => ?_⟩⟩⟩⟩
    rw [cl]
    refine ⟨⟨by omega, by omega⟩, fun q => hK (by omega) (fun k hk => ?_), fun q => s_fl7 t1.2.2.1 (fun ω f _ _ => hq 0 ω (oC_bd (e2.trans (cI_y ⟨l, by omega, q⟩)) (f.p g1.1)))⟩
    by_cases y : k = l
    · rw [y]; exact q
    · exact hl k (by omega)
