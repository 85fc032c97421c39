/-! the reference's futures -/
theorem Inv_fut {μ ν : xM} (hi : Inv μ) (h : iOpen μ) (f : futS μ ν) : Inv ν := by
  have hc := Inv.cache hi h
  obtain ⟨h1, h2, h3, _⟩ := hi
  have e : ∀ k, k ≠ 232 → k ≠ 233 → ν k = μ k := f.1
  refine ⟨iTape_a f.a h1, ?_, ⟨fun z => ?_, fun z => ?_, ?_⟩, Or.inl ⟨iOpen_a f.a h, ?_⟩⟩
  · unfold iErr at *
    rw [e 35 (by omega) (by omega), e 260 (by omega) (by omega), e 0 (by omega) (by omega)]; exact h2
  · have := f.2.2.1 z
    rw [this.1]; exact h3.1 this.2
  · rw [f.2.1 5 (by omega)] at z
    rw [e 234 (by omega) (by omega)]; exact h3.2.1 z
  · rw [e 236 (by omega) (by omega), e 30 (by omega) (by omega)]; exact h3.2.2
  · obtain ⟨c1, c2, c3, c4, _, c6⟩ := hc
    unfold iBest iRisen iLack iGain iHop at *
    refine ⟨?_, ?_, ?_, ?_, f.2.2.2, ?_⟩
    · unfold iBest; rw [e 211 (by omega) (by omega), e 215 (by omega) (by omega), e 263 (by omega) (by omega)]; exact c1
    · unfold iRisen; rw [e 216 (by omega) (by omega), e 270 (by omega) (by omega), e 263 (by omega) (by omega)]; exact c2
    · unfold iLack; rw [e 221 (by omega) (by omega), e 222 (by omega) (by omega), e 263 (by omega) (by omega)]; exact c3
    · unfold iGain; rw [e 231 (by omega) (by omega), e 263 (by omega) (by omega)]; exact c4
    · unfold iHop; rw [e 234 (by omega) (by omega), e 263 (by omega) (by omega)]; exact c6
def cdN (a b c : Nat) : Nat := a + 25 * b + 625 * c
theorem cdN_cd (a b c : Nat) : cd (a : Int) b c = (cdN a b c : Int) := by unfold cd cdN; omega
def iMem (μ : xM) : Prop := ∀ a b c : Nat, a ≤ 24 → b ≤ 24 → c ≤ 24 → vtF (μ 263) b c → ∀ g : Nat, (g : Int) < μ 263 4 → μ 276 (15625 * g + cdN a b c) = -1 ∨ μ 276 (15625 * g + cdN a b c) = mostF (μ 263) ((μ 263 4).toNat - g) a b c
def memS (μ ν : xM) : Prop := (∀ k, k ≠ 276 → ν k = μ k) ∧ iMem ν
theorem memS.tt {μ ν ω : xM} (h : memS μ ν) (h2 : memS ν ω) : memS μ ω := ⟨fun k a => (h2.1 k a).trans (h.1 k a), h2.2⟩
theorem memS.s {μ ν : xM} (h : memS μ ν) : sc1 μ ν := fun k hk => h.1 k (by rintro rfl; exact hk (by unfold scrK; omega))
/-- table by table -/
noncomputable def spF (R : Nat → Int) (x p : Int) (f : Nat → Nat → Nat → Int) (a b c : Nat) : Nat → Int
  | 0 => f a b c
  | t + 1 => mxB (fun v => p + f (if t = 0 then v else a) (if t = 1 then v else b) (if t = 2 then v else c)) (upsBy R (if t = 0 then a else if t = 1 then b else c) x) (spF R x p f a b c t)
theorem seat_sp {R : Nat → Int} (hR : okR R) {x p : Int} {f : Nat → Nat → Nat → Int} {a b c : Nat} : seatF R x p f a b c = spF R x p f a b c (R 0).toNat := by
  have bT := hR.T
  rcases (show R 0 = 1 ∨ R 0 = 2 ∨ R 0 = 3 by omega) with q | q | q
  · rw [q]; simp [seatF, spF, q]
  · rw [q]; simp [seatF, spF, q]
  · rw [q]; simp [seatF, spF, q]
noncomputable def upR (R : Nat → Int) (w : Nat) (x : Int) (n : Nat) : List Nat := (List.range n).filter (fun v => decide (byF R w v = x))
theorem upR_y {R : Nat → Int} {w n : Nat} {x : Int} (h : byF R w n = x) : upR R w x (n + 1) = upR R w x n ++ [n] := by simp [upR, List.range_succ, List.filter_append, h]
theorem upR_n {R : Nat → Int} {w n : Nat} {x : Int} (h : ¬ byF R w n = x) : upR R w x (n + 1) = upR R w x n := by simp [upR, List.range_succ, List.filter_append, h]
theorem upR_out {R : Nat → Int} (hR : okR R) {w : Nat} {x : Int} (hx : 0 ≤ x) : upsBy R w x = upR R w x (R 3).toNat := by
  have b := hR.W
  rw [upsBy_range hx]
  have : ∀ n : Nat, (R 3).toNat ≤ n → upR R w x n = upR R w x (R 3).toNat := by
    intro n hn
    induction n with
    | zero => rw [show (R 3).toNat = 0 by omega]
    | succ n ih =>
      by_cases e : (R 3).toNat = n + 1
      · rw [e]
      · rw [upR_n (by rw [byF_out (by omega)]; omega), ih (by omega)]
  exact this 24 (by omega)
theorem upR_mem {R : Nat → Int} {w n v : Nat} {x : Int} (h : v ∈ upR R w x n) : v < n ∧ byF R w v = x := by simpa [upR] using h
/-- the table at t, and the tables with it changed -/
def tbN (a b c t : Nat) : Nat := if t = 0 then a else if t = 1 then b else c
theorem pk_tb {a b c : Nat} {t : Int} (h0 : 0 ≤ t) (h1 : t < 3) : pk (a : Int) b c t = (tbN a b c t.toNat : Int) := by
  rcases (show t = 0 ∨ t = 1 ∨ t = 2 by omega) with rfl | rfl | rfl <;> rfl
theorem wt_tb {a b c v : Nat} {t : Int} (h0 : 0 ≤ t) (h1 : t < 3) : wt (a : Int) b c t v = (cdN (if t.toNat = 0 then v else a) (if t.toNat = 1 then v else b) (if t.toNat = 2 then v else c) : Int) := by
  rcases (show t = 0 ∨ t = 1 ∨ t = 2 by omega) with rfl | rfl | rfl
  · simp [wt, cd, cdN]
  · simp [wt, cd, cdN]
  · simp [wt, cd, cdN]
theorem tbN_le {a b c t : Nat} (ha : a ≤ 24) (hb : b ≤ 24) (hc : c ≤ 24) : tbN a b c t ≤ 24 := by
  unfold tbN
  split
  · exact ha
  · split
    · exact hb
    · exact hc
/-- all words that the table at t can become, in the reference's order: a loop -/
theorem w_mostOf : ∀ (n fuel : Nat), n < fuel → ∀ (g : Int) (a b c : Nat) (μ : xM) (Q : Int → xM → Prop), iOpW μ → iMem μ → g + n = μ 263 4 → 0 ≤ g → a ≤ 24 → b ≤ 24 → c ≤ 24 → vtF (μ 263) b c → (∀ ν, memS μ ν → Q (mostF (μ 263) n a b c) ν) → tX11_mostOf fuel g (cdN a b c) μ Q := by
  intro n
  induction n with
  | zero =>
    intro fuel hf g a b c μ Q h hm hg g0 ha hb hc hv hq
    obtain ⟨m, rfl⟩ : ∃ m, fuel = m + 1 := ⟨fuel - 1, by omega⟩
    intro _ _ _
    exact ⟨fun z => absurd (show g = μ 263 4 by omega) z, fun _ => hq μ ⟨fun _ _ => rfl, hm⟩⟩
  | succ n ihn =>
    intro fuel hf g a b c μ Q h hm hg g0 ha hb hc hv hq
    obtain ⟨m, rfl⟩ : ∃ m, fuel = m + 1 := ⟨fuel - 1, by omega⟩
    have bN := h.2.1.N
    have bT := h.2.1.T
    have bW := h.2.1.W
    have hR := h.2.1
    have mr := mostF_rng (R := μ 263) (n + 1) a b c
    have fb : ∀ a b c, 0 ≤ mostF (μ 263) n a b c ∧ mostF (μ 263) n a b c ≤ 100 := fun a b c => by have := mostF_rng (R := μ 263) n a b c; omega
    obtain ⟨gn, rfl⟩ : ∃ gn : Nat, g = gn := ⟨g.toNat, by omega⟩
    have en : (μ 263 4).toNat - gn = n + 1 := by omega
    have cl : cdN a b c < 15625 := by unfold cdN; omega
    have bx := hR.fst (g := gn) (by omega)
    obtain ⟨x, hx⟩ : ∃ x, x = μ 263 (295 + gn) := ⟨_, rfl⟩
    have me : mostF (μ 263) (n + 1) a b c = spF (μ 263) x 1 (mostF (μ 263) n) a b c (μ 263 0).toNat := by
      show seatF (μ 263) (μ 263 (295 + ((μ 263 4).toNat - (n + 1)))) 1 (mostF (μ 263) n) a b c = _
      rw [show (μ 263 4).toNat - (n + 1) = gn by omega, ← hx]; exact seat_sp hR
    have spr : ∀ t, 0 ≤ spF (μ 263) x 1 (mostF (μ 263) n) a b c t ∧ spF (μ 263) x 1 (mostF (μ 263) n) a b c t ≤ 101 := by
      intro t
      induction t with
      | zero => have := fb a b c; simp only [spF]; omega
      | succ t ih =>
        simp only [spF]
        refine ⟨Int.le_trans ih.1 ((mxB_le _ _).1 (Int.le_refl _)).1, (mxB_le _ _).2 ⟨ih.2, fun v _ => ?_⟩⟩
        have := (fb (if t = 0 then v else a) (if t = 1 then v else b) (if t = 2 then v else c)).2
        omega
    intro _ _ _
    rw [show (15625 * (gn : Int) + (cdN a b c : Int)).toNat = 15625 * gn + cdN a b c by omega]
    refine ⟨fun _ => ⟨⟨by omega, by omega⟩, fun k => ⟨⟨by omega, by omega⟩, ?_⟩, fun k => ?_⟩, fun z => absurd z (by omega)⟩
    · refine ihn m (by omega) (gn + 1) a b c μ _ h hm (by omega) (by omega) ha hb hc hv (fun ν1 f1 _ _ => ?_)
      refine up2b (n := μ 263 0) (fun t M ν => memS μ ν ∧ M = spF (μ 263) x 1 (mostF (μ 263) n) a b c t.toNat) (by omega) ⟨f1, rfl⟩ ?_
      rintro t M ν K t0 t1 ⟨f2, rfl⟩ _ hK
      have o2 : iOpW ν := iOpW_a f2.s.a h
      have e2 : ν 263 = μ 263 := f2.1 263 (by omega)
      have sr := spr t.toNat
      rw [e2]
      refine ⟨⟨by omega, by omega⟩, fun d => ⟨⟨by omega, by omega⟩, ⟨by omega, by omega⟩, wl fun _ => ?_⟩, fun d => ?_⟩
      · rw [show t.toNat = (μ 263 0).toNat by omega, ← me]
        refine hq _ ⟨fun k hk => ?_, fun x' y z h1 h2 h3 h4 g' hg' => ?_⟩
        · rw [← f2.1 k hk]; funext j; exact wi_cell hk
        · have e263 : wi ν 276 (15625 * gn + cdN a b c) (mostF (μ 263) (n + 1) a b c) 263 = μ 263 := by funext j; rw [wi_cell (by omega), e2]
          rw [e263] at h4 hg' ⊢
          by_cases q : 15625 * g' + cdN x' y z = 15625 * gn + cdN a b c
          · have : g' = gn ∧ x' = a ∧ y = b ∧ z = c := by unfold cdN at q; omega
            obtain ⟨rfl, rfl, rfl, rfl⟩ := this
            rw [wi_self, en]; right; rfl
          · rw [wi_place q]
            have := f2.2 x' y z h1 h2 h3 (by rw [e2]; exact h4) g' (by rw [e2]; exact hg')
            rw [e2] at this; exact this
      · have tn : t.toNat < 3 := by omega
        refine up2b (n := μ 263 3) (fun v M ξ => memS μ ξ ∧ M = mxB (fun v => 1 + mostF (μ 263) n (if t.toNat = 0 then v else a) (if t.toNat = 1 then v else b) (if t.toNat = 2 then v else c)) (upR (μ 263) (tbN a b c t.toNat) x v.toNat) (spF (μ 263) x 1 (mostF (μ 263) n) a b c t.toNat)) (by omega) ⟨f2, rfl⟩ ?_
        rintro v M ξ K2 v0 v1 ⟨f3, rfl⟩ _ hK2
        have o3 : iOpW ξ := iOpW_a f3.s.a h
        have e3 : ξ 263 = μ 263 := f3.1 263 (by omega)
        have ml := tbN_le (t := t.toNat) ha hb hc
        have mrr : 0 ≤ mxB (fun v => 1 + mostF (μ 263) n (if t.toNat = 0 then v else a) (if t.toNat = 1 then v else b) (if t.toNat = 2 then v else c)) (upR (μ 263) (tbN a b c t.toNat) x v.toNat) (spF (μ 263) x 1 (mostF (μ 263) n) a b c t.toNat) ∧ mxB (fun v => 1 + mostF (μ 263) n (if t.toNat = 0 then v else a) (if t.toNat = 1 then v else b) (if t.toNat = 2 then v else c)) (upR (μ 263) (tbN a b c t.toNat) x v.toNat) (spF (μ 263) x 1 (mostF (μ 263) n) a b c t.toNat) ≤ 101 := by
          refine ⟨Int.le_trans sr.1 ((mxB_le _ _).1 (Int.le_refl _)).1, (mxB_le _ _).2 ⟨sr.2, fun v _ => ?_⟩⟩
          have := (fb (if t.toNat = 0 then v else a) (if t.toNat = 1 then v else b) (if t.toNat = 2 then v else c)).2
          omega
        rw [e3]
        refine ⟨⟨by omega, by omega⟩, fun d2 => hK _ _ (by omega) ⟨f3, ?_⟩, fun d2 => ⟨⟨by omega, by omega⟩, ⟨by omega, by omega⟩, ?_⟩⟩
        · rw [show (t + 1).toNat = t.toNat + 1 by omega, spF, show v.toNat = (μ 263 3).toNat by omega, ← upR_out hR (by omega)]
          rfl
        · rw [show (295 + (gn : Int)).toNat = 295 + gn by omega, ← hx, ← cdN_cd]
          have nv : (v + 1).toNat = v.toNat + 1 := by omega
          refine w_wordAfter o3 e3 ⟨by omega, by omega⟩ ⟨by omega, by omega⟩ ⟨by omega, by omega⟩ v0 (by omega) (fun y _ _ => ⟨fun _ => ⟨⟨by omega, by omega⟩, ?_⟩, fun z => absurd (wt_rng ⟨by omega, by omega⟩ ⟨by omega, by omega⟩ ⟨by omega, by omega⟩ ⟨v0, by omega⟩).1 z⟩) (fun y _ _ => ⟨fun z => absurd z (by decide), fun _ => hK2 _ _ (by omega) ⟨f3, ?_⟩⟩)
          · rw [pk_tb t0 (by omega), Int.toNat_natCast] at y
            have ev : v = (v.toNat : Int) := by omega
            rw [show wt (a : Int) b c t v = wt (a : Int) b c t (v.toNat : Int) by rw [← ev], wt_tb t0 (by omega)]
            refine ihn m (by omega) (gn + 1) _ _ _ ξ _ o3 f3.2 (by rw [e3]; omega) (by omega) ?_ ?_ ?_ ?_ (fun ω f4 _ _ => ?_)
            · split <;> omega
            · split <;> omega
            · split <;> omega
            · rw [e3]
              refine ⟨fun q => ?_, fun q => ?_⟩
              · rw [if_neg (by omega)]; exact hv.1 q
              · rw [if_neg (by omega)]; exact hv.2 q
            · rw [e3]
              have q1 := fb (if t.toNat = 0 then v.toNat else a) (if t.toNat = 1 then v.toNat else b) (if t.toNat = 2 then v.toNat else c)
              refine ⟨⟨by omega, by omega⟩, ⟨by omega, by omega⟩, fun w => hK2 _ _ (by omega) ⟨f3.tt f4, ?_⟩, fun w => hK2 _ _ (by omega) ⟨f3.tt f4, ?_⟩⟩
              · rw [nv, upR_y y, mxB_snoc]; omega
              · rw [nv, upR_y y, mxB_snoc]; omega
          · rw [pk_tb t0 (by omega), Int.toNat_natCast] at y
            rw [nv, upR_n y]
    · have old := hm a b c ha hb hc hv gn (by omega)
      rw [en] at old
      have ev : μ 276 (15625 * gn + cdN a b c) = mostF (μ 263) (n + 1) a b c := by
        rcases old with q | q
        · omega
        · exact q
      rw [ev]
      exact hq μ ⟨fun _ _ => rfl, hm⟩
theorem r_mostOf (n fuel : Nat) (hn : n < fuel) (g : Int) (a b c : Nat) (μ : xM) (Q : Int → xM → Prop) (h : iOpen μ) (h2 : iMem μ) (h3 : g + n = μ 263 4) (h4 : 0 ≤ g) (h5 : a ≤ 24) (h6 : b ≤ 24) (h7 : c ≤ 24) (h8 : vtF (μ 263) b c) (h9 : ∀ ν, memS μ ν → Q (mostF (μ 263) n a b c) ν) : tX11_mostOf fuel g (cdN a b c) μ Q := w_mostOf n fuel hn g a b c μ Q h.w h2 h3 h4 h5 h6 h7 h8 h9
theorem r_forget {μ : xM} {Q : xM → Prop} (hq : Q (fillM μ 276 140625 (-1))) : tX11_forget μ Q := by
  intro _
  refine up1 (n := 140625) (fun i ν => ν = fillM μ 276 i.toNat (-1)) (by omega) (fillM_zero μ 276 (-1)).symm ?_
  rintro i ν K i0 i1 rfl _ hK
  refine ⟨⟨by omega, by omega⟩, fun c => ?_, fun c => ⟨⟨i0, by omega⟩, wl fun _ => hK _ (by omega) (by rw [fillM_succ, show (i + 1).toNat = i.toNat + 1 by omega])⟩⟩
  rw [show i.toNat = 140625 by omega]; exact hq
theorem mem_forget {μ : xM} (h : iOpen μ) : memS μ (fillM μ 276 140625 (-1)) := by
  have bN := h.2.1.N
  refine ⟨fun k hk => by funext j; simp [fillM, hk], fun a b c ha hb hc _ g hg => Or.inl ?_⟩
  have g8 : (g : Int) < μ 263 4 := hg
  simp only [fillM]
  rw [if_pos ⟨trivial, by unfold cdN; omega⟩]
theorem fut_fin {μ ν ω : xM} {a : Int} (hi : Inv μ) (h : iOpen μ) (ha : a ≠ 4) (f : futS μ ν) (g : ∀ k, k ≠ 276 → ω k = tr ν a k) : Inv ω :=
  Inv_scr (a := a) (Inv_fut hi h f) (fun k hk => g k (by rintro rfl; exact hk (by unfold scrK; omega))) ha
/-- able -/
theorem c_29 {sc : Int → Int} {i : Int} {μ : xM} (hi : Inv μ) : tl_29 sc i μ Inv := by
  have hK : ∀ a, a ≠ 4 → Inv (tr μ a) := fun a => Inv_tr hi
  rcases hi.os with h | h
  · have h14 := h.1
    have bN := h.2.1.N
    intro _
    refine k_open h (fun _ _ => ⟨fun z => absurd z (by decide), fun _ _ => s_mostFrom (μ 263 4).toNat 12 (by omega) 0 24 24 24 μ _ h (hi.cache h).2.2.2.2.1 (by omega) (by omega) (by omega) (by omega) (by omega) ⟨fun _ => rfl, fun _ => rfl⟩ (fun ν f _ _ _ _ => s_granted (fun _ _ _ _ => ?_))⟩)
    have e3 : ν 263 = μ 263 := f.1 263 (by omega) (by omega)
    have e60 : ν 260 = μ 260 := f.1 260 (by omega) (by omega)
    have hO : iOpen (wi (wi (wi ν 0 18 0) 260 0 0) 260 11 0) := iOpen_m (iOpen_a f.a h) 0
    intro _
    refine s_good (fun _ => ⟨fun _ => r_forget (fun _ _ _ _ => ?_), fun z => absurd (show ν 260 14 = 0 from z) (by rw [e60, h14]; decide)⟩)
    have ms := mem_forget hO
    have g263 : fillM (wi (wi (wi ν 0 18 0) 260 0 0) 260 11 0) 276 140625 (-1) 263 = μ 263 := (show _ = ν 263 from rfl).trans e3
    have rm := r_mostOf (μ 263 4).toNat 12 (by omega) 0 24 24 24 (fillM (wi (wi (wi ν 0 18 0) 260 0 0) 260 11 0) 276 140625 (-1)) (fun r13 μ11 => (xIn r13) → xRan μ11 → (xIn r13) → xRan μ11 → ((mostF (μ 263) (μ 263 4).toNat 24 24 24 = r13) ∧ (Inv μ11))) (iOpen_a ms.s.a hO) ms.2 (by rw [g263]; omega) (by omega) (by omega) (by omega) (by omega) (by rw [g263]; exact ⟨fun _ => rfl, fun _ => rfl⟩) (fun ω f2 _ _ _ _ => ⟨by rw [g263], fut_fin (a := 0) hi h (by decide) f (fun k hk => (f2.1 k hk).trans (ms.1 k hk))⟩)
    exact rm
  · have h14 := h.1
    unfold tl_29
    repeat' (first
      | with_reducible refine k_shut h ?_
      | with_reducible refine s_refused ?_
      | with_reducible refine s_good ?_
      | with_reducible refine s_no ?_
      | (intro zq; exact absurd zq (by decide))
      | (intro zq; exact absurd h14 zq)
      | intro _
      | with_reducible refine And.intro ?_ ?_)
    all_goals first | rfl | contradiction | (exact K_no (hK _ (by decide))) | (exact hK _ (by decide)) | omega | (unfold goodI wordF at *; omega) | skip
