/-! the class reads guests -/
theorem s_nameHere {T : Nat → Int} {n b g s e : Nat} {X : Nat → Int} {ν : xM} {Q : Int → xM → Prop} (t : tC T n b ν) (se : s ≤ e) (en : e ≤ n) (e2 : X (223 + g) = (e : Int) - s) (e3 : ∀ i, s + i < e → X (231 + 8 * g + i) = T (s + i)) (h1 : nmG T n X b g → Q 1 ν) (h0 : ¬ nmG T n X b g → Q 0 ν) : tX5_isNameHere s e ν Q := by
  have n9 := t.1.1
  have tl := tkS7_le (T := T) t.2.1
  intro _ _ _
  rw [t.2.2.1, t.2.2.2.1]
  refine ⟨⟨by omega, by omega⟩, ⟨by omega, by omega⟩, fun el => ?_, fun z => h0 (fun q => z (by have := q.1; omega))⟩
  refine rd1 (n := (e : Int)) (fun l => ∀ k : Nat, (s : Int) + k < l → T (s + k) = T (b + k)) (by omega) (fun k hk => by omega) ?_
  rintro l K l0 l1 hl hK
  obtain ⟨l, rfl⟩ : ∃ m : Nat, l = m := ⟨l.toNat, by omega⟩
  refine ⟨⟨by omega, by omega⟩, fun z => h1 ⟨by omega, fun i hi => by rw [e3 i (by omega)]; exact hl i (by omega)⟩, fun z => s_byte t.1 (by omega) (fun _ _ => ?_)⟩
  rw [t.2.2.1]
  refine ⟨⟨by omega, by omega⟩, ?_⟩
  rw [show (b : Int) + (l : Int) - (s : Int) = ((b + (l - s) : Nat) : Int) by omega]
  refine s_byte t.1 (by omega) (fun _ _ => ⟨fun q => hK (by omega) (fun k hk => ?_), fun q => h0 (fun y => q ?_)⟩)
  · by_cases y : s + k = l
    · rw [y, show k = l - s by omega]; exact q
    · exact hl k (by omega)
  · have := y.2 (l - s) (by omega)
    rw [← this, e3 (l - s) (by omega), show s + (l - s) = l by omega]
theorem s_named {T : Nat → Int} {n b : Nat} {X : Nat → Int} {ν : xM} {Q : Int → xM → Prop} (c : cD T n X ν) (t : tC T n b ν) (h1 : 0 ≤ nmF T n X b → Q 1 ν) (h0 : ¬ 0 ≤ nmF T n X b → Q 0 ν) : tX5_isNamed ν Q := by
  have wb := c.1.2.2.1
  have e4 := c.2.1 4 (by omega) (by omega)
  intro _
  refine rd1 (n := X 4) (fun i => scanF (nmG T n X b) (fun w => w) (X 4 - i).toNat i.toNat = nmF T n X b) (by omega) (by unfold nmF; rw [Int.sub_zero]; rfl) ?_
  rintro i K i0 i1 hi hK
  obtain ⟨i, rfl⟩ : ∃ m : Nat, i = m := ⟨i.toNat, by omega⟩
  rw [e4]
  rw [Int.toNat_natCast] at hi
  refine ⟨⟨by omega, by omega⟩, fun z => h0 ?_, fun z => ⟨fun z8 => by omega, fun _ => ⟨⟨by omega, by omega⟩, ?_⟩⟩⟩
  · rw [show (X 4 - (i : Int)).toNat = 0 by omega] at hi
    rw [← hi]; show ¬ (0 : Int) ≤ -1; decide
  · rw [show (X 4 - (i : Int)).toNat = (X 4 - ((i : Int) + 1)).toNat + 1 by omega] at hi
    obtain ⟨_, s, e, q1, q2, q3, q4, q5, q6⟩ := c.2.2.2.2.2.2.1 i (by omega)
    rw [Int.toNat_natCast, q1, q2]
    refine s_nameHere t q3 q4 q5 q6 (fun q _ _ => ⟨fun z => absurd z (by decide), fun _ => h1 ?_⟩) (fun q _ _ => ⟨fun _ => hK (by omega) ?_, fun z => absurd z (by decide)⟩)
    · rw [scanF_yes q] at hi
      rw [← hi]; omega
    · rw [scanF_no q] at hi
      exact hi
def mG (T : Nat → Int) (b g len : Nat) (X Y : Nat → Int) : Prop := Y 4 = (g : Int) + 1 ∧ Y (223 + g) = len ∧ Y (295 + g) = T b - 97 ∧ (∀ i, i < len → Y (231 + 8 * g + i) = T (b + i))
  ∧ ∀ k, k ≠ 4 → k ≠ 223 + g → k ≠ 295 + g → ¬ (231 + 8 * g ≤ k ∧ k < 231 + 8 * g + len) → Y k = X k
theorem mG_add {T : Nat → Int} {n b g : Nat} {X : Nat → Int} (hg : X 4 = g) (g8 : g < 8) (l0 : b ≤ tkS7 T n b) (l8 : tkS7 T n b ≤ b + 8) : mG T b g (tkS7 T n b - b) X (addG T n X b) := by
  have ad : ∀ k, addG T n X b k = if 231 + 8 * g ≤ k ∧ k < 231 + 8 * g + (tkS7 T n b - b) then T (b + (k - (231 + 8 * g))) else if k = 223 + g then (tkS7 T n b : Int) - b else if k = 295 + g then T b - 97 else if k = 4 then (g : Int) + 1 else X k := fun k => by unfold addG; rw [hg, Int.toNat_natCast]
  refine ⟨?_, ?_, ?_, fun i hi => ?_, fun k a1 a2 a3 a4 => ?_⟩
  · rw [ad, if_neg (by omega), if_neg (by omega), if_neg (by omega), if_pos rfl]
  · rw [ad, if_neg (by omega), if_pos rfl]; omega
  · rw [ad, if_neg (by omega), if_neg (by omega), if_pos rfl]
  · rw [ad, if_pos (by omega)]; congr 2; omega
  · rw [ad, if_neg a4, if_neg a2, if_neg a3, if_neg a1]
theorem okP_guest {T : Nat → Int} {b g len : Nat} {X Y : Nat → Int} (h : okP X) (m : mG T b g len X Y) (hg : X 4 = g) (g8 : g < 8) (l1 : 1 ≤ len) (l8 : len ≤ 8) (hT : 97 ≤ T b ∧ T b ≤ 122) : okP Y := by
  obtain ⟨e4, e2, ef, el, eo⟩ := m
  obtain ⟨a, b3, c, d, e, f, i, j, k, l, mm⟩ := h
  have o := fun x (h1 : x ≠ 4 ∧ (x < 223 ∨ 303 ≤ x)) => eo x (by omega) (by omega) (by omega) (by omega)
  refine ⟨fun z => ?_, by rw [o 3 (by omega)]; exact b3, ⟨by omega, by omega⟩, by rw [o 5 (by omega)]; exact d, by rw [o 6 (by omega)]; exact e, fun x hx => ?_, fun x hx => ?_, fun x hx => ?_, fun x hx => ?_, fun x hx hy => ?_, fun x hx => ?_⟩
  · rw [o 0 (by omega)] at z
    rw [o 0 (by omega), o 1 (by omega), o 2 (by omega)]; exact a z
  · rw [o 3 (by omega)] at hx
    have fx := f x hx
    rw [o (7 + x) (by omega), o (175 + x) (by omega), o (199 + x) (by omega)]
    refine ⟨fx.1, fx.2.1, fx.2.2.1, fun i hi => ?_⟩
    rw [o (31 + 6 * x + i) (by omega)]; exact fx.2.2.2 i hi
  · by_cases y : x = g
    · rw [y, ef]; omega
    · rw [eo (295 + x) (by omega) (by omega) (by omega) (by omega)]; exact i x (by omega)
  · rw [o 5 (by omega)] at hx
    rw [o (303 + x) (by omega), o (309 + x) (by omega)]; exact j x hx
  · rw [o 6 (by omega)] at hx
    rw [o (315 + x) (by omega), o 3 (by omega)]; exact k x hx
  · rw [o 3 (by omega)] at hy
    rw [o (199 + x) (by omega)]; exact l x hx hy
  · by_cases y : x = g
    · rw [y, e2]; omega
    · rw [eo (223 + x) (by omega) (by omega) (by omega) (by omega)]; exact mm x (by omega)
theorem cD_guest {T : Nat → Int} {n b g : Nat} {len : Nat} {X Y : Nat → Int} {ν ω : xM} (c : cD T n X ν) (m : mG T b g len X Y) (hg : X 4 = g) (g8 : g < 8) (l1 : 1 ≤ len) (l8 : len ≤ 8) (bn : b + len ≤ n) (hT : 97 ≤ T b ∧ T b ≤ 122)
    (f : ∀ k, k ≠ 1 → k ≠ 31 → k ≠ 37 → k ≠ 38 → k ≠ 35 → ω k = ν k) (f1 : ∀ j, j ≠ 4 → ω 1 j = ν 1 j) (g1 : ω 1 4 = (g : Int) + 1) (f2 : ∀ j, j ≠ g → ω 31 j = ν 31 j ∧ ω 37 j = ν 37 j ∧ ω 38 j = ν 38 j) (g2 : ω 31 g = T b - 97 ∧ ω 37 g = b ∧ ω 38 g = (b : Int) + len) (f7 : ω 35 7 = ν 35 7 ∧ ω 35 8 = ν 35 8) : cD T n Y ω := by
  have ok := okP_guest c.1 m hg g8 l1 l8 hT
  obtain ⟨e4, e2, ef, el, eo⟩ := m
  obtain ⟨c0, c1, c2, c3, c4, c5, c6, c7, c8⟩ := c
  have o := fun x (h1 : x ≠ 4 ∧ (x < 223 ∨ 303 ≤ x)) => eo x (by omega) (by omega) (by omega) (by omega)
  have w3 := c0.2.1
  refine ⟨ok, fun j h3 h7 => ?_, ?_, ?_, ?_, fun x hx => ?_, fun x hx => ?_, fun x hx => ?_, fun x hx => ?_⟩
  · by_cases y : j = 4
    · rw [y, g1, e4]
    · rw [f1 j y, o j (by omega)]; exact c1 j h3 h7
  · rw [o 0 (by omega), o 1 (by omega), o 2 (by omega), f1 0 (by omega), f1 1 (by omega), f1 2 (by omega)]; exact c2
  · rw [o 0 (by omega), f7.1]; exact c3
  · rw [o 321 (by omega), f7.2]; exact c4
  · rw [o 3 (by omega)] at hx
    have fx := c5 x hx
    have ox := c0.2.2.2.2.2.1 x hx
    rw [f 2 (by omega) (by omega) (by omega) (by omega) (by omega), f 3 (by omega) (by omega) (by omega) (by omega) (by omega), f 30 (by omega) (by omega) (by omega) (by omega) (by omega), f (5 + x) (by omega) (by omega) (by omega) (by omega) (by omega), o (7 + x) (by omega), o (175 + x) (by omega), o (199 + x) (by omega)]
    refine ⟨fx.1, fx.2.1, fx.2.2.1, fun i hi => ?_⟩
    rw [fx.2.2.2 i hi, o (31 + 6 * x + i) (by omega)]
  · by_cases y : x = g
    · rw [y, e2, ef]
      exact ⟨g2.1, b, b + len, g2.2.1, by rw [g2.2.2]; omega, by omega, bn, by omega, fun i hi => el i (by omega)⟩
    · obtain ⟨r, s, e, q1, q2, q3, q4, q5, q6⟩ := c6 x (by omega)
      have m8 := c0.2.2.2.2.2.2.2.2.2.2 x (by omega)
      rw [(f2 x y).1, (f2 x y).2.1, (f2 x y).2.2, eo (295 + x) (by omega) (by omega) (by omega) (by omega), eo (223 + x) (by omega) (by omega) (by omega) (by omega)]
      exact ⟨r, s, e, q1, q2, q3, q4, q5, fun i hi => by rw [eo (231 + 8 * x + i) (by omega) (by omega) (by omega) (by omega)]; exact q6 i hi⟩
  · rw [o 5 (by omega)] at hx
    rw [f 32 (by omega) (by omega) (by omega) (by omega) (by omega), f 33 (by omega) (by omega) (by omega) (by omega) (by omega), o (303 + x) (by omega), o (309 + x) (by omega)]; exact c7 x hx
  · rw [o 6 (by omega)] at hx
    rw [f 34 (by omega) (by omega) (by omega) (by omega) (by omega), o (315 + x) (by omega)]; exact c8 x hx
theorem guestP_s {T : Nat → Int} {n m : Nat} {X : Nat → Int} {a : Nat} : guestP T n (m + 1) X a = cI (tkK T n (nxF T n a) = 1) (cI (0 ≤ nmF T n X (nxF T n a)) (bd 3 (nxF T n a)) (cI (8 ≤ X 4) (bd 5 (nxF T n a))
    (cI (tkK T n (nxF T n (nxF T n a)) = 4) (guestP T n m (addG T n X (nxF T n a)) (nxF T n (nxF T n a))) (okk (addG T n X (nxF T n a)) (nxF T n (nxF T n a)))))) (bd 1 (nxF T n a)) := rfl
theorem s_guest7 {T : Nat → Int} {n a : Nat} {X : Nat → Int} {ν : xM} {Q : Int → xM → Prop} (c : cD T n X ν) (t : tC T n a ν) (hq : ∀ r ω, oC T n ν (guestP T n (9 - X 4).toNat X a) r ω → Q r ω) : tX5_readGuests ν Q := by
  intro _
  refine ⟨fun m l ω => ∃ (Y : Nat → Int) (b : Nat), cD T n Y ω ∧ tC T n b ω ∧ gD ν ω ∧ m = (9 - Y 4).toNat ∧ guestP T n m Y b = guestP T n (9 - X 4).toNat X a ∧ 0 ≤ l ∧ l ≤ Y 4, ⟨_, X, a, c, t, gD.rf ν, rfl, rfl, by omega, c.1.2.2.1.1⟩, ?_⟩
  rintro m l ω ⟨Y, a', cY, tY, gY, rfl, eY, l0, l1⟩ _
  have b4 := cY.1.2.2.1
  obtain ⟨g, hg⟩ : ∃ g : Nat, Y 4 = g := ⟨(Y 4).toNat, by omega⟩
  have e0 := eY.symm
  rw [show (9 - Y 4).toNat = (8 - Y 4).toNat + 1 by omega, guestP_s] at e0
  refine ⟨⟨by omega, by omega⟩, fun z => by omega, fun _ => s_nx7 tY (fun ω1 s1 t1 _ => ?_)⟩
  obtain ⟨b, eb⟩ : ∃ b, b = nxF T n a' := ⟨_, rfl⟩
  rw [← eb] at t1 e0
  have c1 := cY.n s1.T
  have g1 := gY.tt s1.T.g
  have n9 := t1.1.1
  have tl := tkS7_le (T := T) t1.2.1
  rw [t1.2.2.2.2]
  by_cases k1 : tkK T n b = 1
  rotate_left
  · exact ⟨fun z => absurd z k1, fun _ => s_fl7 t1.2.2.1 (fun ω f _ _ => hq 0 ω (oC_bd (e0.trans (cI_n k1)) (f.p g1.1)))⟩
  have e1 := e0.trans (cI_y k1)
  have wr := wrd_in k1
  refine ⟨fun _ => s_named c1 t1 (fun q _ _ => ⟨fun z => absurd z (by decide), fun _ => s_fl7 t1.2.2.1 (fun ω f _ _ => hq 0 ω (oC_bd (e1.trans (cI_y q)) (f.p g1.1)))⟩) (fun q _ _ => ⟨fun _ => ?_, fun z => absurd z (by decide)⟩), fun z => absurd k1 z⟩
  have e2 := e1.trans (cI_n q)
  have w4 : ω1 1 4 = g := by rw [c1.2.1 4 (by omega) (by omega)]; exact hg
  rw [w4]
  by_cases g8 : 8 ≤ Y 4
  · exact ⟨fun z => by omega, fun _ => s_fl7 t1.2.2.1 (fun ω f _ _ => hq 0 ω (oC_bd (e2.trans (cI_y g8)) (f.p g1.1)))⟩
  have e3 := e2.trans (cI_n g8)
  refine ⟨fun _ => ⟨⟨by omega, by omega⟩, wl fun _ => ?_⟩, fun z => by omega⟩
  rw [Int.toNat_natCast]
  have t2 := t1.w (k := 37) (j := g) (v := ω1 35 11) (by omega)
  have w5 : wi ω1 37 g (ω1 35 11) 1 4 = g := by rw [wi_cell (by omega)]; exact w4
  rw [w5]
  refine ⟨⟨by omega, by omega⟩, wl fun _ => ?_⟩
  rw [Int.toNat_natCast]
  have t3 := t2.w (k := 38) (j := g) (v := wi ω1 37 g (ω1 35 11) 35 12) (by omega)
  obtain ⟨B, eB⟩ : ∃ B, B = wi (wi ω1 37 g (ω1 35 11)) 38 g (wi ω1 37 g (ω1 35 11) 35 12) := ⟨_, rfl⟩
  have gB : gD ω1 B := by rw [eB]; exact ((gD.rf ω1).w (by omega)).w (by omega)
  have Bk : ∀ k, k ≠ 37 → k ≠ 38 → B k = ω1 k := fun k h1 h2 => by rw [eB]; funext j; rw [wi_cell h2, wi_cell h1]
  have B7 : B 37 g = b ∧ B 38 g = tkS7 T n b ∧ ∀ j, j ≠ g → B 37 j = ω1 37 j ∧ B 38 j = ω1 38 j := by
    rw [eB]
    refine ⟨?_, ?_, fun j hj => ⟨?_, ?_⟩⟩
    · rw [wi_cell (by omega), wi_self]; exact t1.2.2.1
    · rw [wi_self]; exact t2.2.2.2.1
    · rw [wi_cell (by omega), wi_place hj]
    · rw [wi_place hj, wi_cell (by omega)]
  rw [← eB] at t3 ⊢
  rw [t3.2.2.1]
  have tb := wr.2.2.2 0 (by omega)
  rw [Nat.add_zero] at tb
  refine s_byte t3.1 wr.1 (fun _ _ => ⟨⟨by omega, by omega⟩, fun _ _ => ?_⟩)
  rw [show B 1 4 = g by rw [Bk 1 (by omega) (by omega)]; exact w4]
  refine ⟨fun z => by omega, fun _ => ⟨⟨by omega, by omega⟩, wl fun _ => ?_⟩⟩
  rw [Int.toNat_natCast]
  rw [show wi B (1 + 30) g (T b - 97) 1 4 = g by rw [wi_cell (by omega), Bk 1 (by omega) (by omega)]; exact w4]
  refine ⟨⟨by omega, by omega⟩, wl fun _ _ => s_nx7 ((t3.w (by omega)).w (by omega)) (fun ω2 s2 t4 _ => ?_)⟩
  have g2 : gD ν ω2 := ((((g1.tt gB).w (by omega)).w (by omega))).tt s2.T.g
  have cc : cD T n (addG T n Y b) ω2 := by
    refine cD_guest (g := g) (len := tkS7 T n b - b) c1 (mG_add hg (by omega) tl.1 wr.2.2.1) hg (by omega) (by omega) (by omega) (by omega) tb (fun k a1 a2 a3 a4 a5 => ?_) (fun j hj => ?_) ?_ (fun j hj => ⟨?_, ?_, ?_⟩) ⟨?_, ?_, ?_⟩ ⟨?_, ?_⟩
    · rw [s2.1 k a5, ← Bk k a3 a4]; funext j; rw [wi_cell a1, wi_cell (by omega)]
    · rw [s2.1 1 (by omega), wi_place hj, wi_cell (by omega), Bk 1 (by omega) (by omega)]
    · rw [s2.1 1 (by omega), wi_self]
    · rw [s2.1 31 (by omega), wi_cell (by omega), wi_place (k := 31) hj, Bk 31 (by omega) (by omega)]
    · rw [s2.1 37 (by omega), wi_cell (by omega), wi_cell (by omega)]; exact (B7.2.2 j hj).1
    · rw [s2.1 38 (by omega), wi_cell (by omega), wi_cell (by omega)]; exact (B7.2.2 j hj).2
    · rw [s2.1 31 (by omega), wi_cell (by omega)]; exact wi_self _ 31 _ _
    · rw [s2.1 37 (by omega), wi_cell (by omega), wi_cell (by omega)]; exact B7.1
    · rw [s2.1 38 (by omega), wi_cell (by omega), wi_cell (by omega), B7.2.1]; omega
    · rw [s2.2 7 (by omega), wi_cell (by omega), wi_cell (by omega), Bk 35 (by omega) (by omega)]
    · rw [s2.2 8 (by omega), wi_cell (by omega), wi_cell (by omega), Bk 35 (by omega) (by omega)]
  rw [t4.2.2.2.2]
  have y4 : addG T n Y b 4 = (g : Int) + 1 := (mG_add hg (by omega) tl.1 wr.2.2.1).1
  refine ⟨fun k4 => ⟨(8 - Y 4).toNat, by omega, addG T n Y b, nxF T n b, cc, t4, g2, by rw [y4]; omega, (e3.trans (cI_y k4)).symm, by omega, by rw [y4]; omega⟩, fun k4 => hq 1 ω2 (oC_ok (e3.trans (cI_n k4)) g2 cc t4)⟩
