/-! the reference reads the house's line -/
def r64 (X : Nat → Int) (ν : xM) : Prop := ∀ k, k < 322 → ν 264 k = X k
theorem r64.w {X : Nat → Int} {ν : xM} (h : r64 X ν) {j : Nat} {v : Int} : r64 (up X j v) (wi ν 264 j v) := fun k hk => by
  by_cases e : k = j
  · rw [e, wi_self, up_self]
  · rw [wi_place e, up_ne e]; exact h k hk
theorem r64.s {X : Nat → Int} {ν ω : xM} (h : r64 X ν) (s : rS ν ω) : r64 X ω := fun k hk => by rw [s.1 264 (by omega) (by omega)]; exact h k hk
theorem tR.w {T : Nat → Int} {n a : Nat} {ν : xM} (t : tR T n a ν) {j : Nat} {v : Int} : tR T n a (wi ν 264 j v) := by
  obtain ⟨⟨t1, t2, t3, t4⟩, an, e4, e5, e6, e8, e7⟩ := t
  refine ⟨⟨t1, by rw [wi_cell (by omega)]; exact t2, fun i hi => by rw [wi_cell (by omega)]; exact t3 i hi, t4⟩, an, by rw [wi_cell (by omega)]; exact e4, by rw [wi_cell (by omega)]; exact e5, by rw [wi_cell (by omega)]; exact e6, fun k => ?_, fun k => by rw [wi_cell (by omega)]; exact e7 k⟩
  rw [wi_cell (by omega)]
  exact ⟨(e8 k).1, fun i hi => by rw [wi_cell (by omega)]; exact (e8 k).2 i hi⟩
def rD (T : Nat → Int) (n : Nat) (X : Nat → Int) (a : Nat) (ν : xM) : Prop := okP X ∧ r64 X ν ∧ tR T n a ν ∧ ν 260 13 = 0
def oR (T : Nat → Int) (n : Nat) (μ : xM) : pO → xM → Prop
  | .inl q, ω => flR q.1 q.2 μ ω
  | .inr q, ω => gR μ ω ∧ rD T n q.1 q.2 ω
theorem oR_bd {T : Nat → Int} {n p : Nat} {o : pO} {f : Int} {μ ω : xM} (e : o = bd f p) (h : flR f p μ ω) : oR T n μ o ω := by rw [e]; exact h
theorem oR_ok {T : Nat → Int} {n a : Nat} {o : pO} {X : Nat → Int} {μ ω : xM} (e : o = okk X a) (g : gR μ ω) (k : okP X) (h : r64 X ω) (t : tR T n a ω) (z : ω 260 13 = 0) : oR T n μ o ω := by rw [e]; exact ⟨g, k, h, t, z⟩
theorem gR.z {μ ν : xM} (g : gR μ ν) (h : μ 260 13 = 0) : ν 260 13 = 0 := by rw [g.2 13 (by omega)]; exact h
theorem r_told7 {T : Nat → Int} {n a i : Nat} {lo hi : Int} {ν : xM} {Q : Int → xM → Prop} {o : Int → Nat → pO} (t : tR T n a ν) (h13 : ν 260 13 = 0)
    (h1 : ∀ ω, rS ν ω → tR T n (nxF T n (nxF T n a)) ω → lo ≤ wvl T n (nxF T n a) → wvl T n (nxF T n a) ≤ hi → keyF T n i a (fun b => numF T n lo hi b o) = o (wvl T n (nxF T n a)) (nxF T n (nxF T n a)) → Q (wvl T n (nxF T n a)) ω)
    (h0 : ∀ ω f p, flR f p ν ω → keyF T n i a (fun b => numF T n lo hi b o) = bd f p → Q lo ω) : tX11_told i lo hi ν Q := by
  intro _ _ _
  refine r_must7 t h13 (fun ω s u k _ => r_num7 u (s.g.z h13) (fun χ s2 u2 l1 l2 k2 _ _ => h1 χ (s.tt s2) u2 l1 l2 (k.trans k2)) (fun χ f fl k2 _ _ => h0 χ f _ (fl.p s.g) (k.trans k2))) (fun ω f k _ => d_number f.d (fun _ _ => h0 ω 1 a f k))
theorem d_b92 {b1 b2 : Int} {ν : xM} {Q : xM → Prop} (h : ν 260 13 ≠ 0) (hq : Q ν) : tX11_innLine_b92 b1 b2 ν Q := fun _ => ⟨fun z => absurd z h, fun _ => hq⟩
theorem d_b78 {b1 : Int} {ν : xM} {Q : xM → Prop} (h : ν 260 13 ≠ 0) (hq : Q ν) : tX11_innLine_b78 b1 (-1) ν Q := fun _ => ⟨⟨by decide, by decide⟩, fun z => absurd z (by decide), fun _ => d_wrong h (fun _ => d_b92 h hq)⟩
theorem r_house7 {T : Nat → Int} {n a : Nat} {X : Nat → Int} {ν : xM} {Q : xM → Prop} (h : rD T n X (nxF T n a) ν) (x0 : X 0 = 0) (hq : ∀ ω, oR T n ν (houseF T n X a) ω → Q ω) : tX11_innLine ν Q := by
  obtain ⟨ok, h64, t, h13⟩ := h
  have e0 : houseF T n X a = _ := cI_n (fun z => z x0)
  intro _
  refine ⟨fun _ => ?_, fun z => absurd h13 z⟩
  have dead : ∀ (r5 : Int) (ω : xM), ω 260 13 ≠ 0 → Q ω → tX11_isWord 4 ω (fun r18 μ16 => (r18 = 0 ∨ r18 = 1) → xRan μ16 → (((r18 = 0 → tX11_isWord 5 μ16 (fun r23 μ21 => (r23 = 0 ∨ r23 = 1) → xRan μ21 → (((r23 = 0 → tX11_isWord 6 μ21 (fun r28 μ26 => (r28 = 0 ∨ r28 = 1) → xRan μ26 → (((r28 = 0 → tX11_innLine_b78 r5 (-1) μ26 Q ) ∧
  (r28 = 1 → tX11_innLine_b78 r5 2 μ26 Q ))))) ∧
  (r23 = 1 → tX11_innLine_b78 r5 1 μ21 Q ))))) ∧
  (r18 = 1 → tX11_innLine_b78 r5 0 μ16 Q )))) := fun r5 ω d q => d_isWord d (fun _ _ => ⟨fun _ => d_isWord d (fun _ _ => ⟨fun _ => d_isWord d (fun _ _ => ⟨fun _ => d_b78 d q, fun z => absurd z (by decide)⟩), fun z => absurd z (by decide)⟩), fun z => absurd z (by decide)⟩)
  refine r_told7 t h13 (fun ω1 s1 t1 l1 m1 k1 _ _ => r_told7 t1 (s1.g.z h13) (fun ω2 s2 t2 l2 m2 k2 _ _ => wl fun _ => ?_) (fun ω f p fl k2 _ _ => wl fun _ => d_must fl.w.d (fun _ => dead _ _ fl.w.d (hq _ (oR_bd ((e0.trans k1).trans k2) (fl.w.p s1.g)))))) (fun ω f p fl k1 _ _ => d_told fl.d (fun _ _ => wl fun _ => d_must fl.w.d (fun _ => dead _ _ fl.w.d (hq _ (oR_bd (e0.trans k1) fl.w)))))
  have e2 := (e0.trans k1).trans k2
  have g2 := (s1.g.tt s2.g).w (j := 1) (v := wvl T n (nxF T n (nxF T n (nxF T n (nxF T n a)))))
  have h2 := ((h64.s s1).s s2).w (j := 1) (v := wvl T n (nxF T n (nxF T n (nxF T n (nxF T n a)))))
  refine r_must7 t2.w (g2.z h13) (fun ω3 s3 t3 k3 _ => ?_) (fun ω fl k3 _ => dead _ _ fl.d (hq _ (oR_bd (e2.trans k3) (fl.p g2))))
  have e3 := e2.trans k3
  have g3 := g2.tt s3.g
  have h3 := h2.s s3
  have z3 := g3.z h13
  have b1 : xIn (wvl T n (nxF T n (nxF T n a))) := ⟨by omega, by omega⟩
  have fin : ∀ g : Int, 0 ≤ g ∧ g ≤ 2 → (houseF T n X a = okk (up (up (up X 1 (wvl T n (nxF T n (nxF T n (nxF T n (nxF T n a)))))) 2 g) 0 (wvl T n (nxF T n (nxF T n a)))) (nxF T n (nxF T n (nxF T n (nxF T n (nxF T n (nxF T n (nxF T n a)))))))) → tX11_innLine_b78 (wvl T n (nxF T n (nxF T n a))) g ω3 Q := by
    intro g bg eo _
    refine ⟨⟨by omega, by omega⟩, fun _ _ => ⟨fun _ => r_nx7 t3 (fun ω4 s4 t4 _ => ⟨⟨by omega, by omega⟩, wl fun _ => ⟨b1, wl fun _ => hq _ (oR_ok eo ((g3.tt s4.g).w.w) (okP_house ok ⟨l1, m1⟩ ⟨l2, m2⟩ bg) ((h3.s s4).w.w) t4.w.w ?_)⟩⟩), fun z => absurd z3 z⟩, fun z => by omega⟩
    exact ((g3.tt s4.g).w.w).z h13
  refine r_isw t3 z3 (fun q4 _ _ => ⟨fun z => absurd z (by decide), fun _ => fin 0 (by decide) (e3.trans (cI_y q4))⟩) (fun q4 _ _ => ⟨fun _ => ?_, fun z => absurd z (by decide)⟩)
  refine r_isw t3 z3 (fun q5 _ _ => ⟨fun z => absurd z (by decide), fun _ => fin 1 (by decide) (e3.trans ((cI_n q4).trans (cI_y q5)))⟩) (fun q5 _ _ => ⟨fun _ => ?_, fun z => absurd z (by decide)⟩)
  refine r_isw t3 z3 (fun q6 _ _ => ⟨fun z => absurd z (by decide), fun _ => fin 2 (by decide) (e3.trans ((cI_n q4).trans ((cI_n q5).trans (cI_y q6))))⟩) (fun q6 _ _ => ⟨fun _ _ => ⟨⟨by decide, by decide⟩, fun z => absurd z (by decide), fun _ => ?_⟩, fun z => absurd z (by decide)⟩)
  rw [t3.2.2.1]
  exact r_wrong z3 (fun ω fl _ => d_b92 fl.d (hq _ (oR_bd (e3.trans ((cI_n q4).trans ((cI_n q5).trans (cI_n q6)))) (fl.p g3))))
/-! the reference finds a word or a name -/
theorem r_find7 {T : Nat → Int} {n b : Nat} {X : Nat → Int} {ν : xM} {Q : Int → xM → Prop} {c q s w : Nat} (t : tR T n b ν) (h64 : r64 X ν) (k1 : tkK T n b = 1) (hc : c ≤ 24) (hqb : q + c ≤ 322) (hs : ∀ x, x < c → s + w * x + (X (q + x)).toNat ≤ 322) (P : Nat → Prop)
    (hP : ∀ x, x < c → (P x ↔ X (q + x) = (tkS7 T n b : Int) - b ∧ ∀ i, b + i < tkS7 T n b → X (s + w * x + i) = T (b + i))) (hq : Q (scanF P (fun w => w) c 0) ν) : tX11_find c q s w ν Q := by
  have wr := wrd_in k1
  obtain ⟨w8, wl8⟩ := t.2.2.2.2.2.1 k1
  intro _ _ _ _ _
  refine rd1 (n := (c : Int)) (fun i => scanF P (fun w => w) (c - i.toNat) i.toNat = scanF P (fun w => w) c 0) (by omega) rfl ?_
  rintro x K x0 x1 hx hK
  obtain ⟨x, rfl⟩ : ∃ m : Nat, x = m := ⟨x.toNat, by omega⟩
  rw [Int.toNat_natCast] at hx
  refine ⟨⟨by omega, by omega⟩, fun z => ?_, fun z => ⟨⟨by omega, by omega⟩, ?_⟩⟩
  · rw [show c - x = 0 by omega] at hx
    rw [← hx] at hq; exact hq
  rw [show c - x = (c - (x + 1)) + 1 by omega] at hx
  have xc : x < c := by omega
  have yes : P x → Q x ν := fun p => by rw [scanF_yes p] at hx; rw [← hx] at hq; exact hq
  have no : ¬ P x → K ((x : Int) + 1) ν := fun p => hK (by omega) (by rw [scanF_no p] at hx; exact hx)
  have xq : ν 264 ((q : Int) + x).toNat = X (q + x) := by rw [show ((q : Int) + x).toNat = q + x by omega]; exact h64 _ (by omega)
  rw [xq, w8]
  have inner : ∀ s0 : Int, (s0 = 1 ∧ X (q + x) = (tkS7 T n b : Int) - b) ∨ (s0 = 0 ∧ X (q + x) ≠ (tkS7 T n b : Int) - b) → tX11_find_b30 c q s w x s0 ν Q K := by
    intro s0 hs0 _
    refine rd2b (n := (tkS7 T n b : Int) - b) (fun l f => (f = 1 ∧ X (q + x) = (tkS7 T n b : Int) - b ∧ ∀ k : Nat, (k : Int) < l → X (s + w * x + k) = T (b + k)) ∨ (f = 0 ∧ ¬ P x)) (by omega) ?_ ?_
    · rcases hs0 with ⟨r1, r2⟩ | ⟨r1, r2⟩
      · exact Or.inl ⟨r1, r2, fun k hk => by omega⟩
      · exact Or.inr ⟨r1, fun p => r2 ((hP x xc).1 p).1⟩
    rintro l f J l0 l1 hl hJ
    obtain ⟨l, rfl⟩ : ∃ m : Nat, l = m := ⟨l.toNat, by omega⟩
    rw [w8]
    refine ⟨⟨by omega, by omega⟩, fun z => ⟨by rcases hl with r | r <;> exact ⟨by omega, by omega⟩, fun f0 => no ?_, fun f0 => ⟨⟨by omega, by omega⟩, yes ?_⟩⟩, fun z => ⟨by rcases hl with r | r <;> exact ⟨by omega, by omega⟩, fun f0 => ⟨fun _ => no ?_, fun z => absurd f0 z⟩, fun f0 => ?_⟩⟩
    · rcases hl with r | r
      · omega
      · exact r.2
    · rcases hl with r | r
      · exact (hP x xc).2 ⟨r.2.1, fun i hi => r.2.2 i (by omega)⟩
      · exact absurd r.1 f0
    · rcases hl with r | r
      · omega
      · exact r.2
    · have hl1 := hl.resolve_right (fun r => f0 r.1)
      have hb := hs x xc
      have ci : (s : Int) + (w : Int) * (x : Int) + (l : Int) = ((s + w * x + l : Nat) : Int) := by push_cast; rfl
      rw [ci, Int.toNat_natCast, Int.toNat_natCast, wl8 l (by omega), h64 (s + w * x + l) (by omega)]
      refine ⟨⟨by omega, by omega⟩, ⟨by omega, by omega⟩, fun r => hJ 0 (by omega) (Or.inr ⟨rfl, fun p => r (((hP x xc).1 p).2 l (by omega))⟩), fun r => hJ 1 (by omega) (Or.inl ⟨rfl, hl1.2.1, fun k hk => ?_⟩)⟩
      by_cases y : k = l
      · rw [y]; exact r
      · exact hl1.2.2 k (by omega)
  exact ⟨fun z => inner 0 (Or.inr ⟨rfl, z⟩), fun z => inner 1 (Or.inl ⟨rfl, z⟩)⟩
