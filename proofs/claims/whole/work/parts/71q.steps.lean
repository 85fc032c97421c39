/-! stairs: climbing -/
def clS (μ ν : xM) : Prop := (∀ k, ¬ (236 ≤ k ∧ k ≤ 246) → ν k = μ k) ∧ ((ν 236 5 = 243 ∧ ν 236 6 = 244) ∨ (ν 236 5 = 244 ∧ ν 236 6 = 243))
theorem far_never {R d : Nat → Int} (hR : okR R) {n : Nat} {up : Int} {h b : Nat → Nat} {F : Nat → Int} (hb : ∀ j, j < 3 → domF R (b j)) (hF : isDist (adjW R 1 n up) 15625 (cdF b) F) {t : Nat} (tT : (t : Int) < R 0) (hd : isDist (adjF R) 25 (h t) d) (h0 : d (b t) < 0) : ∀ (m : Nat) (f : Nat → Nat), (∀ j, j < 3 → domF R (f j)) → F (cdF f) = m → d (f t) < 0 := by
  have bT := hR.T
  have dl : ∀ {w : Nat}, domF R w → w ≤ 24 := fun hw => domF_le hR hw
  intro m
  induction m with
  | zero =>
    intro f hf hm
    have := hF.2.2.2.1 _ (cdF_lt (fun j hj => dl (hf j hj))) hm
    have ee := cdF_inj (fun j hj => dl (hf j hj)) (fun j hj => dl (hb j hj)) this
    rw [ee t (by omega)]; exact h0
  | succ m ih =>
    intro f hf hm
    obtain ⟨w, w1, w2, w3⟩ := hF.2.2.1 _ (cdF_lt (fun j hj => dl (hf j hj))) (by omega)
    obtain ⟨f', t', v, a1, a2, a3, a4, a5, a6⟩ := w2
    have i1 := ih f' a1 (by rw [← a2]; omega)
    have sd := sT_dom (t := t') a1 (stTV_dom a5)
    have ee := cdF_inj (fun j hj => dl (hf j hj)) (fun j hj => dl (sd j hj)) a6
    rw [ee t (by omega)]
    unfold sT
    by_cases q : t' = t
    · subst q
      rw [if_pos rfl]
      have l1 := dl (a1 t' (by omega))
      rcases Int.lt_or_le (d v) 0 with z | z
      · exact z
      · have := (hd.2.2.2.2 v (f' t') (by omega) (by omega) z (st_adj a5).symm).1
        omega
    · rw [if_neg q]; exact i1
theorem s_climb {μ : xM} {b h : Nat → Nat} {n : Nat} {up : Int} {F : Nat → Int} {Q : Int → xM → Prop} (hi : iOpW μ) (hp : (μ 236 5 = 243 ∧ μ 236 6 = 244) ∨ (μ 236 5 = 244 ∧ μ 236 6 = 243)) (hb : okX (μ 263) n b) (hn : μ 249 1 = n) (hn2 : (n : Int) ≤ μ 263 4) (hN : ∀ t, t < 3 → μ 250 t = (b t : Nat)) (hh : ∀ j, j < 3 → domF (μ 263) (h j)) (hh2 : ∀ j : Nat, j < 3 → μ 263 0 ≤ (j : Int) → h j = 24)
    (hF : isDist (adjW (μ 263) 1 n up) 15625 (cdF b) F) (hF2 : ∀ v, v < 15625 → F v < 15625) (hq : ∀ ω, clS μ ω → Q (if 0 ≤ F (cdF h) then F (cdF h) else -2) ω) : tX7_climb 249 (cdX h) up μ Q := by
  have hR := hi.2.1
  have bT := hR.T
  have bN := hR.N
  obtain ⟨R, eR⟩ : ∃ R, R = μ 263 := ⟨_, rfl⟩
  rw [← eR] at hR bT bN hb hn2 hh hh2 hF
  have dl : ∀ {w : Nat}, domF R w → w ≤ 24 := fun hw => domF_le hR hw
  have bl : ∀ j, j < 3 → b j ≤ 24 := fun j hj => dl (hb.1 j hj)
  have hl : ∀ j, j < 3 → h j ≤ 24 := fun j hj => dl (hh j hj)
  have xh := cdX_lt hl
  have xb := cdX_lt bl
  have fh := cdF_lt hl
  have a0 : μ (249 + 1) (0 : Int).toNat = b 0 := hN 0 (by omega)
  have a1 : μ (249 + 1) (1 : Int).toNat = b 1 := hN 1 (by omega)
  have a2 : μ (249 + 1) (2 : Int).toNat = b 2 := hN 2 (by omega)
  intro _ _ _
  refine s_at (fun _ _ _ _ => s_at (fun _ _ _ _ => s_at (fun _ _ _ _ => ?_) (fun z => absurd ⟨by decide, by decide⟩ z)) (fun z => absurd ⟨by decide, by decide⟩ z)) (fun z => absurd ⟨by decide, by decide⟩ z)
  rw [a0, a1, a2]
  refine s_codeOf bl (fun _ _ => ⟨fun z => ?_, fun z => ?_⟩)
  rotate_left
  · have e : cdX b = cdX h := by omega
    have ee := cdX_inj bl hl e
    have : F (cdF h) = 0 := by rw [← cdF_c ee]; exact hF.1
    have := hq μ ⟨fun _ _ => rfl, hp⟩
    rw [‹F (cdF h) = 0›, if_pos (by decide)] at this
    exact this
  have nbh : cdX b ≠ cdX h := fun y => z (by rw [y])
  have nfh : F (cdF h) ≠ 0 := fun y => by
    have := hF.2.2.2.1 _ fh y
    exact nbh (cdX_c (cdF_inj bl hl this.symm))
  refine s_gather7 hi (by omega) hn (by rw [← eR]; exact hn2) (fun ν g1 g2 g3 g4 _ => wl fun _ => ?_)
  rw [← eR] at g4
  obtain ⟨M, eM⟩ : ∃ M, M = wi ν 236 12 up := ⟨_, rfl⟩
  rw [← eM]
  have Mk : ∀ k, k ≠ 236 → k ≠ 237 → M k = μ k := fun k a c => by rw [eM, ← g1 k a c]; funext j; exact wi_cell a
  have Mo : iOpW M := iOpW_c (by rw [Mk 260 (by omega) (by omega)]) (fun k hk => Mk k (by omega) (by omega)) hi
  have M3 : M 263 = R := (Mk 263 (by omega) (by omega)).trans eR.symm
  have Mc : clS μ M := ⟨fun k hk => Mk k (by omega) (by omega), by rw [eM, wi_place (by omega), wi_place (by omega), g2 5 (by omega), g2 6 (by omega)]; exact hp⟩
  have M11 : M 236 11 = n := by rw [eM, wi_place (by omega)]; exact g3
  have M12 : M 236 12 = up := by rw [eM, wi_self]
  have M37 : ∀ c : Nat, c < 26 → M 237 c = cntG R n c := fun c hc => by rw [eM, wi_cell (by omega)]; exact g4 c hc
  have noW : ∀ ω, clS μ ω → ¬ 0 ≤ F (cdF h) → Q (-2) ω := fun ω w y => by have := hq ω w; rw [if_neg y] at this; exact this
  refine s_awayFrom Mo bl hl (fun ν2 t d w1 tT hd h0 => ?_) (fun ν2 w1 w2 => ?_)
  · rw [M3] at tT hd
    refine fun _ _ => ⟨fun _ => noW ν2 ⟨fun k hk => (w1 k (by omega)).trans (Mc.1 k hk), by rw [w1 236 (by omega)]; exact Mc.2⟩ (fun y => ?_), fun y => absurd (by decide) y⟩
    have := far_never hR (h := h) hb.1 hF tT hd h0 (F (cdF h)).toNat h hh (by omega)
    have := hd.1
    omega
  rw [M3] at w2 ⊢
  obtain ⟨D, hDD⟩ : ∃ D : Nat → Nat → Int, D = fun t w => ν2 (239 + t) w := ⟨_, rfl⟩
  have H : PT R n up D h b F := ⟨hR, fun t ht => by rw [hDD]; exact (w2 t ht).1, hb, fun t ht => by rw [hDD]; exact (w2 t ht).2.2, hF⟩
  have ePhi : sumN (fun t => ν2 (239 + t) (b t)) (R 0).toNat = Phi R D b := by unfold Phi; rw [hDD]
  have Ph0 : 0 ≤ Phi R D b ∧ Phi R D b ≤ 75 := by
    have x := sumN_le (f := fun _ => 0) (g := fun t => D t (b t)) (R 0).toNat (fun t ht => H.2.2.2.1 t (by omega))
    have y := sumN_le (f := fun t => D t (b t)) (g := fun _ => 25) (R 0).toNat (fun t ht => by
      have := (w2 t (by omega)).2.1 (b t) (by have := bl t (by omega); omega)
      rw [hDD]; simp only; omega)
    rw [sumN_k] at x y
    unfold Phi; omega
  have Phh : Phi R D h = 0 := by
    unfold Phi
    have : sumN (fun t => D t (h t)) (R 0).toNat = sumN (fun _ => 0) (R 0).toNat := sumN_c _ (fun t ht => (H.2.1 t (by omega)).1)
    rw [this, sumN_k]; omega
  rw [ePhi]
  have C2 : clS μ ν2 := ⟨fun k hk => (w1 k (by omega)).trans (Mc.1 k hk), by rw [w1 236 (by omega)]; exact Mc.2⟩
  have o2 : iOpW ν2 := iOpW_c (by rw [w1 260 (by omega)]) (fun k hk => w1 k (by omega)) Mo
  have n3 : ν2 263 = R := (w1 263 (by omega)).trans M3
  have n11 : ν2 236 11 = n := by rw [w1 236 (by omega)]; exact M11
  have n12 : ν2 236 12 = up := by rw [w1 236 (by omega)]; exact M12
  have n37 : ∀ c : Nat, c < 26 → ν2 237 c = cntG R n c := fun c hc => by rw [w1 237 (by omega)]; exact M37 c hc
  refine fun _ _ => ⟨fun y => absurd y (by omega), fun _ => ?_⟩
  refine s_canBe o2 (by rw [n3]; exact hh) n11 (by rw [n3]; exact hn2) (by rw [n3]; exact n37) (fun ω v1 v2 v3 v4 _ _ => ⟨fun _ => ?_, fun y => absurd y (by decide)⟩) (fun ω v1 v2 _ _ => ⟨fun y => absurd y (by decide), fun _ => ?_⟩)
  rotate_left
  · rw [n3, n12] at v2
    refine noW ω ⟨fun k hk => (v1 k (by omega)).trans (C2.1 k hk), by rw [v1 236 (by omega)]; exact C2.2⟩ (fun y => v2 ?_)
    obtain ⟨w, u1, u2, u3⟩ := hF.2.2.1 _ fh (by omega)
    obtain ⟨f', t, v, a1, a2, a3, a4, a5, a6⟩ := u2
    obtain ⟨g, q1, q2, _, _⟩ := reach_ok H (F (cdF h)).toNat (cdF h) fh (by omega)
    have e1 := cdF_inj hl (fun j hj => dl (q1.1 j hj)) q2
    have sd := sT_dom (t := t) a1 (stTV_dom a5)
    have e2 := cdF_inj hl (fun j hj => dl (sd j hj)) a6
    have hx := okX_c (fun j hj => (e1 j hj).symm) q1
    refine ⟨?_, hx.2.2⟩
    have := a5.2
    unfold lenC at *
    rw [e2 0 (by omega), e2 1 (by omega), e2 2 (by omega)]
    exact this
  rw [n3] at v2 v4
  have okh : okX R n h := ⟨hh, hh2, v4⟩
  refine s_fill (by omega) (fun _ => s_fill (by omega) (fun _ => wl fun _ => wl fun _ => ?_))
  obtain ⟨Z, eZ⟩ : ∃ Z, Z = wi (wi (fillM (fillM ω 245 489 0) 246 489 0) 236 9 0) 236 10 0 := ⟨_, rfl⟩
  rw [← eZ]
  have Zk : ∀ k, k ≠ 236 → k ≠ 245 → k ≠ 246 → Z k = ω k := fun k a c d => by
    rw [eZ]; funext j; rw [wi_cell a, wi_cell a]; unfold fillM; rw [if_neg (by omega), if_neg (by omega)]
  have Z6 : ∀ j, j ≠ 9 → j ≠ 10 → Z 236 j = ν2 236 j := fun j a c => by
    rw [eZ, wi_place c, wi_place a]
    unfold fillM
    rw [if_neg (by omega), if_neg (by omega), v1 236 (by omega)]
  have Z45 : ∀ j, j < 489 → Z 245 j = 0 := fun j hj => by
    rw [eZ, wi_cell (by omega), wi_cell (by omega)]
    unfold fillM
    rw [if_neg (by omega), if_pos ⟨rfl, hj⟩]
  have Z46 : ∀ j, j < 489 → Z 246 j = 0 := fun j hj => by
    rw [eZ, wi_cell (by omega), wi_cell (by omega)]
    unfold fillM
    rw [if_pos ⟨rfl, hj⟩]
  have Zp : (Z 236 5 = 243 ∧ Z 236 6 = 244) ∨ (Z 236 5 = 244 ∧ Z 236 6 = 243) := by rw [Z6 5 (by omega) (by omega), Z6 6 (by omega) (by omega)]; exact C2.2
  have ZC : clS μ Z := ⟨fun k hk => (Zk k (by omega) (by omega) (by omega)).trans ((v1 k (by omega)).trans (C2.1 k hk)), Zp⟩
  have ZB : CB R n up D Z := by
    refine ⟨iOpW_c (by rw [Zk 260 (by omega) (by omega) (by omega), v1 260 (by omega)]) (fun k hk => by rw [Zk k (by omega) (by omega) (by omega), v1 k (by omega)]) o2, ?_, ?_, ?_, fun c hc => ?_, fun t w ht => ?_⟩
    · rw [Zk 263 (by omega) (by omega) (by omega), v1 263 (by omega)]; exact n3
    · rw [Z6 11 (by omega) (by omega)]; exact n11
    · rw [Z6 12 (by omega) (by omega)]; exact n12
    · rw [Zk 237 (by omega) (by omega) (by omega)]; exact v2 c hc
    · rw [Zk (239 + t) (by omega) (by omega) (by omega), v1 (239 + t) (by omega), hDD]
  have ZS : Sch [] [] [] Z := by
    refine ⟨Zp, ?_, fun i hi => by simp at hi, ?_, fun i hi => by simp at hi, fun x hx => ?_, by simp, fun x hx => by simp at hx, by simp, fun x hx => by simp at hx, fun x hx y => ?_⟩
    · rw [eZ, wi_place (by omega), wi_self]; rfl
    · rw [eZ, wi_self]; rfl
    · constructor
      · intro y; exact absurd y (inB_zero x (Z45 _ (by omega)))
      · rintro (y | y) <;> simp at y
    · exact absurd y (inB_zero x (Z46 _ (by omega)))
  refine s_putNow ZS xb (fun y => by simp at y) (fun _ Y y1 y2 y3 _ _ => ?_)
  rw [List.nil_append] at y1
  have YB := ZB.pt y2
  have YC : clS μ Y := ⟨fun k hk => (y2.1 k (by omega) (by omega)).trans (ZC.1 k hk), y1.1⟩
  -- even steps more
  have even : 0 ≤ F (cdF h) → (F (cdF h) - Phi R D b) % 2 = 0 := fun y => by
    obtain ⟨g, q1, q2, _, q4⟩ := reach_ok H (F (cdF h)).toNat (cdF h) fh (by omega)
    have e1 := cdF_inj hl (fun j hj => dl (q1.1 j hj)) q2
    rw [← Phi_c hR e1, Phh] at q4
    omega
  have akh : ∀ k : Int, Ak R D b F k h ↔ 0 ≤ F (cdF h) ∧ F (cdF h) - Phi R D b ≤ 2 * k := fun k => by
    unfold Ak
    rw [Phh]
    constructor
    · rintro ⟨u1, u2⟩; exact ⟨u1, by omega⟩
    · rintro ⟨u1, u2⟩; exact ⟨u1, by omega⟩
  refine ⟨fun m far ξ => ∃ (k : Nat) (P now : List Nat), far = Phi R D b + 2 * k ∧ m = (31252 - far).toNat ∧ far ≤ 31252 ∧ CB R n up D ξ ∧ clS μ ξ ∧ Sch P now [] ξ ∧ WW R n up D b F k P now [] ξ ∧ ¬ Ak R D b F ((k : Int) - 1) h ∧ cdX h ∉ P, ⟨_, 0, [], [cdX b], by omega, rfl, by omega, YB, YC, y1, ⟨fun x hx => ?_, fun x hx => by simp at hx, fun f hf hx => by simp at hx, Or.inr (by simp), fun f y hf ha => ?_⟩, ?_, by simp⟩, ?_⟩
  · rcases hx with u | u
    · simp at u
    · exact ⟨b, hb, ⟨by rw [hF.1]; decide, by rw [hF.1]; omega⟩, List.mem_singleton.1 u⟩
  · exfalso
    obtain ⟨u1, u2⟩ := ha
    -- fewer than no steps back
    have lt := cdF_lt (fun j hj => dl (hf.1 j hj))
    have nn : ∀ (m x : Nat), x < 15625 → F x = m → ∀ g, (∀ j, j < 3 → domF R (g j)) → x = cdF g → 0 ≤ F x + Phi R D g - Phi R D b := by
      intro m
      induction m with
      | zero =>
        intro x hx hm g hg eg
        have := hF.2.2.2.1 x hx hm
        have ee := cdF_inj (fun j hj => dl (hg j hj)) bl (eg.symm.trans this)
        rw [Phi_c hR ee, hm]; omega
      | succ m ih =>
        intro x hx hm g hg eg
        obtain ⟨w, c1, c2, c3⟩ := hF.2.2.1 x hx (by omega)
        obtain ⟨f', t, v, a1, a2, a3, a4, a5, a6⟩ := c2
        have i1 := ih w c1 (by omega) f' a1 a2
        obtain ⟨g', q1, q2, _, _⟩ := reach_ok H m w c1 (by omega)
        have e0 := cdF_inj (fun j hj => dl (q1.1 j hj)) (fun j hj => dl (a1 j hj)) (q2.symm.trans a2)
        have pm := (st_reach H (okX_c e0 q1) (by rw [← a2]; omega) a3 a4 a5).2.2.2
        have sd := sT_dom (t := t) a1 (stTV_dom a5)
        have ee := cdF_inj (fun j hj => dl (hg j hj)) (fun j hj => dl (sd j hj)) (eg.symm.trans a6)
        rw [Phi_c hR ee, Phi_set a3]
        rcases pm with u | u <;> omega
    have := nn (F (cdF f)).toNat (cdF f) lt (by omega) f hf.1 rfl
    omega
  · rw [akh]
    rintro ⟨u1, u2⟩
    have e := even u1
    have lt := cdF_lt hl
    -- as above, by the numbers alone: the steps are at least as many as the sum
    have nn : ∀ (m x : Nat), x < 15625 → F x = m → ∀ g, (∀ j, j < 3 → domF R (g j)) → x = cdF g → 0 ≤ F x + Phi R D g - Phi R D b := by
      intro m
      induction m with
      | zero =>
        intro x hx hm g hg eg
        have := hF.2.2.2.1 x hx hm
        have ee := cdF_inj (fun j hj => dl (hg j hj)) bl (eg.symm.trans this)
        rw [Phi_c hR ee, hm]; omega
      | succ m ih =>
        intro x hx hm g hg eg
        obtain ⟨w, c1, c2, c3⟩ := hF.2.2.1 x hx (by omega)
        obtain ⟨f', t, v, a1, a2, a3, a4, a5, a6⟩ := c2
        have i1 := ih w c1 (by omega) f' a1 a2
        obtain ⟨g', q1, q2, _, _⟩ := reach_ok H m w c1 (by omega)
        have e0 := cdF_inj (fun j hj => dl (q1.1 j hj)) (fun j hj => dl (a1 j hj)) (q2.symm.trans a2)
        have pm := (st_reach H (okX_c e0 q1) (by rw [← a2]; omega) a3 a4 a5).2.2.2
        have sd := sT_dom (t := t) a1 (stTV_dom a5)
        have ee := cdF_inj (fun j hj => dl (hg j hj)) (fun j hj => dl (sd j hj)) (eg.symm.trans a6)
        rw [Phi_c hR ee, Phi_set a3]
        rcases pm with u | u <;> omega
    have := nn (F (cdF h)).toNat (cdF h) lt (by omega) h hh rfl
    rw [Phh] at this
    omega
  · rintro m far ξ ⟨k, P, now, e1, e2, e3, e4, e5, e6, e7, e8, e9⟩ _
    have big : 0 ≤ F (cdF h) → Phi R D b + 2 * k ≤ F (cdF h) := fun y => by
      have := even y
      rw [akh] at e8
      omega
    refine ⟨⟨by omega, by omega⟩, fun d => noW ξ e5 (fun y => ?_), fun d => ⟨fun d2 => noW ξ e5 (fun y => ?_), fun d2 => ?_⟩⟩
    · have := big y; have := hF2 _ fh; omega
    · have nw : now = [] := List.length_eq_zero_iff.1 (by have := e6.2.1; omega)
      subst nw
      obtain ⟨v1, v2, v3, v4, v5⟩ := e7
      have no : ∀ x : Nat, (x ∈ P ∨ x ∈ ([] : List Nat)) → x ∈ P := fun x u => u.elim id (fun u => by simp at u)
      refine e9 (all_R H (S := fun x => x ∈ P) (no _ v4) (fun f y hf hx hy => no _ ((v3 f hf hx).1 y hy)) (fun f y hf hx hy => ?_) (F (cdF h)).toNat h okh (by omega))
      rcases (v3 f hf hx).2 y hy with u | u
      · exact no _ u
      · obtain ⟨t, v, c1, c2, c3, c4, c5⟩ := hy
        have yl : y < 15625 := by rw [c5]; exact cdX_lt (fun j hj => dl ((okX_up hR hf c1 c3).1 j hj))
        rcases e6.2.2.2.2.2.2.2.2.2.2 y yl u with w | w
        · simp at w
        · exact no _ w
    · refine s_goOnAll H hn2 e4 e6 e7 (fun ω P' lat' q1 q2 q3 q4 _ => ?_)
      have no : ∀ x : Nat, (x ∈ P' ∨ x ∈ ([] : List Nat)) → x ∈ P' := fun x u => u.elim id (fun u => by simp at u)
      have wC : clS μ ω := ⟨fun j hj => (q2.1 j (by omega) (by omega) (by omega)).trans (e5.1 j hj), by rw [q2.2 5 (by omega) (by omega), q2.2 6 (by omega) (by omega)]; exact e5.2⟩
      obtain ⟨v1, v2, v3, v4, v5⟩ := q4
      have inA : ∀ f, okX R n f → Ak R D b F k f → cdX f ∈ P' := fun f hf ha => all_A H (S := fun x => x ∈ P') (k := k) (no _ v4) (fun f y hf hx hy => no _ ((v3 f hf hx).1 y hy)) (fun f y hf ha hy => no _ (v5 f y hf ha hy)) (F (cdF f)).toNat f hf (by have := ha.1; omega) ha
      refine s_isIn xh (fun y _ _ => ⟨fun u => absurd u (by decide), fun _ => ?_⟩) (fun y _ _ => ⟨fun _ => ?_, fun u => absurd u (by decide)⟩)
      · have y' := no _ ((q3.2.2.2.2.2.1 _ xh).1 y)
        obtain ⟨f, f1, f2, f3⟩ := v1 _ (Or.inl y')
        have ee := cdX_inj hl (fun j hj => dl (f1.1 j hj)) f3
        have ak : Ak R D b F k h := by
          obtain ⟨u1, u2⟩ := f2
          rw [← cdF_c ee] at u1 u2
          rw [← Phi_c hR ee] at u2
          exact ⟨u1, u2⟩
        rw [akh] at ak
        have := big ak.1
        have r := hq ω wC
        rw [if_pos ak.1, show F (cdF h) = far by omega] at r
        exact r
      · have nh : cdX h ∉ P' := fun u => y ((q3.2.2.2.2.2.1 _ xh).2 (Or.inl u))
        have na : ¬ Ak R D b F k h := fun u => nh (inA h okh u)
        refine s_takeLater q3 (fun ω2 now2 r1 r2 r3 r4 r5 _ => ⟨_, ?_, k + 1, P', now2, ?_, rfl, ?_, ?_, ?_, r1, ?_, ?_, nh⟩)
        · omega
        · omega
        · omega
        · obtain ⟨c1, c2, c3, c4, c5, c6⟩ := q1
          refine ⟨iOpW_c (by rw [r2.1 260 (by omega) (by omega)]) (fun k hk => r2.1 k (by omega) (by omega)) c1, by rw [r2.1 263 (by omega) (by omega)]; exact c2, by rw [r2.2 11 (by omega) (by omega) (by omega) (by omega)]; exact c3, by rw [r2.2 12 (by omega) (by omega) (by omega) (by omega)]; exact c4, fun c hc => by rw [r2.1 237 (by omega) (by omega)]; exact c5 c hc, fun t w ht => by rw [r2.1 (239 + t) (by omega) (by omega)]; exact c6 t w ht⟩
        · exact ⟨fun j hj => (r2.1 j (by omega) (by omega)).trans (wC.1 j hj), r1.1⟩
        · have lift : ∀ x : Nat, (x ∈ P' ∨ x ∈ ([] : List Nat)) → (x ∈ P' ∨ x ∈ now2) := fun x u => Or.inl (no x u)
          refine ⟨fun x hx => ?_, fun x hx => by simp at hx, fun f hf hx => ⟨fun y hy => lift _ ((v3 f hf hx).1 y hy), fun y hy => ((v3 f hf hx).2 y hy).elim (fun u => Or.inl (lift _ u)) (fun u => Or.inr (by rw [r3]; exact u))⟩, lift _ v4, fun f y hf ha hy => ?_⟩
          · rcases hx with u | u
            · obtain ⟨f, f1, f2, f3⟩ := v1 x (Or.inl u)
              exact ⟨f, f1, ⟨f2.1, by have := f2.2; omega⟩, f3⟩
            · obtain ⟨f, f1, f2, f3⟩ := v2 x (r4 x u)
              exact ⟨f, f1, ⟨f2.1, by have := f2.2; omega⟩, f3⟩
          · have ha2 : Ak R D b F k f := ⟨ha.1, by have := ha.2; omega⟩
            rcases (v3 f hf (inA f hf ha2)).2 y hy with u | u
            · exact lift _ u
            · obtain ⟨t, v, c1, c2, c3, c4, c5⟩ := hy
              have yl : y < 15625 := by rw [c5]; exact cdX_lt (fun j hj => dl ((okX_up hR hf c1 c3).1 j hj))
              rcases q3.2.2.2.2.2.2.2.2.2.2 y yl u with w | w
              · exact r5 y w
              · exact lift _ w
        · intro u
          refine na ⟨u.1, ?_⟩
          have := u.2
          omega
