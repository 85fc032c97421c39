/-! the reference reads a word's line -/
theorem d_b74 {b1 : Int} {ν : xM} {Q : xM → Prop} (h : ν 260 13 ≠ 0) (hq : Q ν) : tX11_wordLine_b74 b1 ν Q := fun _ => ⟨fun z => absurd z h, fun _ => hq⟩
theorem d_b49 {b1 : Int} {ν : xM} {Q : xM → Prop} (h : ν 260 13 ≠ 0) (hq : Q ν) : tX11_wordLine_b49 b1 ν Q := fun _ => ⟨fun _ => d_b74 h hq, fun z => absurd z h⟩
theorem r_mw7 {T : Nat → Int} {n a : Nat} {ν : xM} {Q : xM → Prop} (t : tR T n a ν) (h13 : ν 260 13 = 0) (h1 : tkK T n a = 1 → Q ν) (h0 : tkK T n a ≠ 1 → ∀ ω, flR 1 a ν ω → Q ω) : tX11_mustWord ν Q := by
  have rc := rc_i T n a
  intro _
  rw [t.2.2.2.2.1, t.2.2.1]
  exact ⟨fun z => absurd h13 z, fun _ => ⟨fun z => h1 (rc.1.1 z), fun z => r_wrong h13 (fun ω f _ => h0 (fun q => z (rc.1.2 q)) ω f)⟩⟩
theorem r64_word {T : Nat → Int} {b w len : Nat} {v q : Int} {X Y : Nat → Int} {ω : xM} (m : mW T b w len v q X Y) (h3 : ω 264 3 = (w : Int) + 1) (h7 : ω 264 (7 + w) = len) (hv : ω 264 (175 + w) = v) (hb : ω 264 (199 + w) = q) (hl : ∀ i, i < len → ω 264 (31 + 6 * w + i) = T (b + i)) (ho : ∀ k, k < 322 → k ≠ 3 → k ≠ 7 + w → k ≠ 175 + w → k ≠ 199 + w → ¬ (31 + 6 * w ≤ k ∧ k < 31 + 6 * w + len) → ω 264 k = X k) : r64 Y ω := by
  obtain ⟨e3, e7, ev, eb, el, eo⟩ := m
  intro k hk
  by_cases c3 : k = 3
  · rw [c3, h3, e3]
  by_cases c7 : k = 7 + w
  · rw [c7, h7, e7]
  by_cases cv : k = 175 + w
  · rw [cv, hv, ev]
  by_cases cb : k = 199 + w
  · rw [cb, hb, eb]
  by_cases cl : 31 + 6 * w ≤ k ∧ k < 31 + 6 * w + len
  · rw [show k = 31 + 6 * w + (k - (31 + 6 * w)) by omega, hl _ (by omega), el _ (by omega)]
  · rw [ho k hk c3 c7 cv cb cl, eo k c3 c7 cv cb cl]
theorem r_word7 {T : Nat → Int} {n a : Nat} {X : Nat → Int} {ν : xM} {Q : xM → Prop} (h : rD T n X (nxF T n a) ν) (x3 : ¬ 24 ≤ X 3) (hq : ∀ ω, oR T n ν (wordP T n X a) ω → Q ω) : tX11_wordLine ν Q := by
  obtain ⟨ok, h64, t, h13⟩ := h
  have b3 := ok.2.1
  obtain ⟨w, hw⟩ : ∃ w : Nat, X 3 = w := ⟨(X 3).toNat, by omega⟩
  have w24 : w < 24 := by omega
  have e0 : wordP T n X a = _ := cI_n x3
  obtain ⟨b, eb⟩ : ∃ b, b = nxF T n a := ⟨_, rfl⟩
  rw [← eb] at t e0
  have x264 : ν 264 3 = w := by rw [h64 3 (by omega)]; exact hw
  intro _
  rw [x264]
  refine ⟨fun _ => r_mw7 t h13 (fun k1 _ => ⟨fun z => absurd h13 z, fun _ => ?_⟩) (fun k1 ω fl _ => ⟨fun _ => d_b49 fl.d (hq ω (oR_bd (e0.trans (cI_n k1)) fl)), fun z => absurd z fl.d⟩), fun z => absurd h13 z⟩
  have e1 := e0.trans (cI_y k1)
  have wr := wrd_in k1
  have tl := tkS7_le (T := T) t.2.1
  have n9 := t.1.1
  obtain ⟨w8, wl8⟩ := t.2.2.2.2.2.1 k1
  refine r_find7 (c := w) (q := 7) (s := 31) (w := 6) (P := tlW T n X b) t h64 k1 (by omega) (by omega) (fun x hx => ?_) (fun x hx => Iff.rfl) (fun _ _ => ?_)
  · have := (ok.2.2.2.2.2.1 x (by omega)).1; omega
  have ef : scanF (tlW T n X b) (fun w => (w : Int)) w 0 = fndF T n X b := by unfold fndF; rw [hw]; rfl
  rw [ef]
  by_cases f0 : 0 ≤ fndF T n X b
  · rw [t.2.2.1]
    exact ⟨fun z => by omega, fun _ => r_wrong h13 (fun ω fl _ => d_b49 fl.d (hq ω (oR_bd (e1.trans (cI_y f0)) fl)))⟩
  have e2 := e1.trans (cI_n f0)
  refine ⟨fun _ _ => ⟨fun z => absurd h13 z, fun _ => ?_⟩, fun z => by omega⟩
  rw [w8, t.2.2.1]
  by_cases l6 : tkS7 T n b ≤ b + 6
  rotate_left
  · exact ⟨fun z => by omega, fun _ => r_wrong h13 (fun ω fl _ => d_b74 fl.d (hq ω (oR_bd (e2.trans (cI_n l6)) fl)))⟩
  have e4 := e2.trans (cI_y l6)
  refine ⟨fun _ _ => ⟨fun _ => ?_, fun z => absurd h13 z⟩, fun z => by omega⟩
  have b0 : X (199 + w) = 0 := ok.2.2.2.2.2.2.2.2.2.1 w w24 (by omega)
  refine up1 (n := (tkS7 T n b : Int) - b) (fun l ω => gR ν ω ∧ tR T n b ω ∧ (∀ i : Nat, (i : Int) < l → ω 264 (31 + 6 * w + i) = T (b + i)) ∧ ∀ k, k < 322 → ¬ (31 + 6 * w ≤ k ∧ (k : Int) < 31 + 6 * w + l) → ω 264 k = X k) (by omega) ⟨gR.rf ν, t, fun i hi => by omega, fun k hk _ => h64 k hk⟩ ?_
  rintro l ω K l0 l1 ⟨go, to, hl, ho⟩ _ hK
  obtain ⟨l, rfl⟩ : ∃ m : Nat, l = m := ⟨l.toNat, by omega⟩
  obtain ⟨o8, ol8⟩ := to.2.2.2.2.2.1 k1
  rw [o8]
  refine ⟨⟨by omega, by omega⟩, fun z => ⟨⟨by omega, by omega⟩, wl fun _ => ?_⟩, fun z => ⟨⟨by omega, by omega⟩, ⟨by omega, by omega⟩, wl fun _ => hK _ (by omega) ⟨go.w, to.w, fun i hi => ?_, fun k hk hn => ?_⟩⟩⟩
  rotate_left
  · rw [show (31 + 6 * (w : Int) + (l : Int)).toNat = 31 + 6 * w + l by omega, Int.toNat_natCast, ol8 l (by omega)]
    by_cases y : i = l
    · rw [y, wi_self]
    · rw [wi_place (by omega)]; exact hl i (by omega)
  · rw [show (31 + 6 * (w : Int) + (l : Int)).toNat = 31 + 6 * w + l by omega, wi_place (by omega)]; exact ho k hk (by omega)
  rw [show (7 + (w : Int)).toNat = 7 + w by omega, show (175 + (w : Int)).toNat = 175 + w by omega, show (199 + (w : Int)).toNat = 199 + w by omega]
  refine r_nx7 to.w (fun ω1 s1 t1 _ => ?_)
  have g1 := (go.w (j := 7 + w) (v := (tkS7 T n b : Int) - b)).tt s1.g
  refine r_told7 t1 (g1.z h13) (fun ω2 s2 t2 l2 m2 k2 _ _ => ⟨⟨by omega, by omega⟩, wl fun _ _ => ?_⟩) (fun χ f p fl k2 _ _ => ⟨⟨by omega, by omega⟩, wl fun _ => d_takes fl.w.d (fun _ _ => ⟨fun _ => ⟨fun _ => hq _ (oR_bd (e4.trans k2) (fl.w.p g1)), fun z => absurd z fl.w.d⟩, fun z => absurd z (by decide)⟩)⟩)
  have e5 := e4.trans k2
  obtain ⟨v, ev⟩ : ∃ v, v = wvl T n (nxF T n (nxF T n b)) := ⟨_, rfl⟩
  rw [← ev] at e5 l2 m2 ⊢
  have g2 := (g1.tt s2.g).w (j := 175 + w) (v := v)
  have z2 := g2.z h13
  have mA : mW T b w (tkS7 T n b - b) v 0 X (addW T n X b v) := mW_add hw w24 b0 tl.1 l6
  have F : ∀ k, ω2 264 k = wi ω 264 (7 + w) ((tkS7 T n b : Int) - b) 264 k := fun k => by rw [s2.1 264 (by omega) (by omega), s1.1 264 (by omega) (by omega)]
  have fo : ∀ k, k < 322 → k ≠ 7 + w → ¬ (31 + 6 * w ≤ k ∧ k < 31 + 6 * w + (tkS7 T n b - b)) → ω2 264 k = X k := fun k hk k7 kl => by rw [F, wi_place k7]; exact ho k hk (by omega)
  have fl : ∀ i, i < tkS7 T n b - b → ω2 264 (31 + 6 * w + i) = T (b + i) := fun i hi => by rw [F, wi_place (by omega)]; exact hl i (by omega)
  have f7 : ω2 264 (7 + w) = ((tkS7 T n b - b : Nat) : Int) := by rw [F, wi_self]; omega
  have hT : ∀ i, i < tkS7 T n b - b → 97 ≤ T (b + i) ∧ T (b + i) ≤ 122 := fun i hi => wr.2.2.2 i (by omega)
  refine r_isw t2.w z2 (fun q9 _ _ => ⟨fun _ => r_nx7 t2.w (fun ω3 s3 t3 _ _ _ => ⟨fun z => absurd z (by decide), fun _ => ⟨⟨by omega, by omega⟩, wl fun _ => ⟨fun z => absurd ?_ z, fun _ => ?_⟩⟩⟩), fun z => absurd z (by decide)⟩) (fun q9 _ _ => ⟨fun z => absurd z (by decide), fun _ _ _ => ⟨fun _ => ⟨fun z => absurd z2 z, fun _ => ?_⟩, fun z => absurd z (by decide)⟩⟩)
  · exact ((g2.tt s3.g).w).z h13
  · have y3 : wi ω3 264 (199 + w) 1 264 3 = w := by rw [wi_place (by omega), s3.1 264 (by omega) (by omega), wi_place (by omega), fo 3 (by omega) (by omega) (by omega)]; exact hw
    rw [y3]
    refine ⟨⟨by omega, by omega⟩, wl fun _ => hq _ (oR_ok (e5.trans (cI_y q9)) ((g2.tt s3.g).w.w) (okP_word ok (by rw [show (X 3).toNat = w by omega]; exact mW_bar mA w24 (by omega)) hw w24 (by omega) (by omega) ⟨l2, m2⟩ (Or.inr rfl) hT) (r64_word (by rw [show (X 3).toNat = w by omega]; exact mW_bar mA w24 (by omega)) ?_ ?_ ?_ ?_ (fun i hi => ?_) (fun k hk a1 a2 a3 a4 a5 => ?_)) t3.w.w (((g2.tt s3.g).w.w).z h13))⟩
    · rw [wi_self]
    · rw [wi_place (by omega), wi_place (by omega), s3.1 264 (by omega) (by omega), wi_place (by omega)]; exact f7
    · rw [wi_place (by omega), wi_place (by omega), s3.1 264 (by omega) (by omega), wi_self]
    · rw [wi_place (by omega), wi_self]
    · rw [wi_place (by omega), wi_place (by omega), s3.1 264 (by omega) (by omega), wi_place (by omega)]; exact fl i hi
    · rw [wi_place a1, wi_place a4, s3.1 264 (by omega) (by omega), wi_place a3]; exact fo k hk a2 a5
  · have y3 : wi ω2 264 (175 + w) v 264 3 = w := by rw [wi_place (by omega), fo 3 (by omega) (by omega) (by omega)]; exact hw
    rw [y3]
    refine ⟨⟨by omega, by omega⟩, wl fun _ => hq _ (oR_ok (e5.trans (cI_n q9)) g2.w (okP_word ok mA hw w24 (by omega) (by omega) ⟨l2, m2⟩ (Or.inl rfl) hT) (r64_word mA ?_ ?_ ?_ ?_ (fun i hi => ?_) (fun k hk a1 a2 a3 a4 a5 => ?_)) t2.w.w (g2.w.z h13))⟩
    · rw [wi_self]
    · rw [wi_place (by omega), wi_place (by omega)]; exact f7
    · rw [wi_place (by omega), wi_self]
    · rw [wi_place (by omega), wi_place (by omega), fo (199 + w) (by omega) (by omega) (by omega)]; exact b0
    · rw [wi_place (by omega), wi_place (by omega)]; exact fl i hi
    · rw [wi_place a1, wi_place a3]; exact fo k hk a2 a5
