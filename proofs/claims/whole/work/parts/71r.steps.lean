theorem Inv_st {μ ν : xM} (hi : Inv μ) (c : clS μ ν) : Inv ν := by
  have sa : asame μ ν := by
    intro k j hn
    by_cases q : 236 ≤ k ∧ k ≤ 246
    · have : ascr k j = true := by
        have h1 : 209 ≤ k ∧ k ≤ 248 := by omega
        simp [ascr, cscr, h1]
      rw [this] at hn; exact absurd hn (by decide)
    · rw [c.1 k q]
  obtain ⟨h1, h2, h3, h4⟩ := hi
  refine ⟨iTape_a sa h1, ?_, ⟨fun z => ?_, fun z => ?_, c.2, by rw [c.1 30 (by omega)]; exact h3.2.2.2⟩, ?_⟩
  · unfold iErr at *
    rw [c.1 35 (by omega), c.1 260 (by omega), c.1 0 (by omega)]; exact h2
  · rw [c.1 232 (by omega)] at z
    rw [c.1 233 (by omega)]; exact h3.1 z
  · rw [c.1 232 (by omega)] at z
    rw [c.1 234 (by omega)]; exact h3.2.1 z
  · rcases h4 with q | q
    · exact Or.inl ⟨iOpen_a sa q.1, iCache_c (fun k hk => c.1 k (by omega)) q.2⟩
    · exact Or.inr (iShut_a sa q)
def told (R : Nat → Int) (t p : Int) : Prop := p = -1 ∨ (t < R 0 ∧ wordF R p)
def egF (R : Nat → Int) (p : Int) : Prop := p = -1 ∨ goodI R p
theorem s_told {μ : xM} {t p : Int} {Q : Int → xM → Prop} (h : iOpen μ) (h1 : told (μ 263) t p → Q 1 μ) (h0 : ¬ told (μ 263) t p → Q 0 μ) : tX10_isTold t p μ Q := by
  have e0 := h.2.2.1.1 0 (by omega)
  intro _ _ _
  rw [e0]
  exact ⟨fun z => h1 (Or.inl z), fun z => ⟨fun y => h0 (fun u => u.elim z (fun u => by have := u.1; omega)), fun y => k_word h (fun w _ _ => ⟨fun z => absurd z (by decide), fun _ => h1 (Or.inr ⟨by omega, w⟩)⟩) (fun w _ _ => ⟨fun _ => h0 (fun u => u.elim z (fun u => w u.2)), fun z => absurd z (by decide)⟩)⟩⟩
theorem s_eg {μ : xM} {p : Int} {Q : Int → xM → Prop} (h : iOpen μ) (h1 : egF (μ 263) p → Q 1 μ) (h0 : ¬ egF (μ 263) p → Q 0 μ) : tX10_isEmptyOrGood p μ Q := by
  intro _ _
  exact ⟨fun z => h1 (Or.inl z), fun z => k_good h (fun w _ _ => ⟨fun z => absurd z (by decide), fun _ => h1 (Or.inr w)⟩) (fun w _ _ => ⟨fun _ => h0 (fun u => u.elim z w), fun z => absurd z (by decide)⟩)⟩
theorem r_told {μ : xM} {R : Nat → Int} {t p : Int} {Q : Int → xM → Prop} (h : iOpen μ) (e : μ 263 = R) (ht : 0 ≤ t) (h1 : told R t p → Q 1 μ) (h0 : ¬ told R t p → Q 0 μ) : tX11_mayBe t p μ Q := by
  intro _ _ _
  exact ⟨fun z => h1 (Or.inl z), fun z => r_table h e (fun _ y _ _ => ⟨fun z => absurd z (by decide), fun _ => r_word h e (fun w _ _ => ⟨fun z => absurd z (by decide), fun _ => h1 (Or.inr ⟨y, w⟩)⟩) (fun w _ _ => ⟨fun _ => h0 (fun u => u.elim z (fun u => w u.2)), fun z => absurd z (by decide)⟩)⟩) (fun y _ _ => ⟨fun _ => h0 (fun u => u.elim z (fun u => y ⟨ht, u.1⟩)), fun z => absurd z (by decide)⟩)⟩
theorem r_eg {μ : xM} {R : Nat → Int} {t p : Int} {Q : Int → xM → Prop} (e : μ 263 = R) (hW : R 3 ≤ 24) (hp : told R t p) (h1 : egF R p → Q 1 μ) (h0 : ¬ egF R p → Q 0 μ) : tX11_isGoodOrNone p μ Q := by
  intro _ _
  exact ⟨fun z => h1 (Or.inl z), fun z => r_good e (hp.resolve_left z).2 hW (fun w _ _ => ⟨fun z => absurd z (by decide), fun _ => h1 (Or.inr w)⟩) (fun w _ _ => ⟨fun _ => h0 (fun u => u.elim z w), fun z => absurd z (by decide)⟩)⟩
def hkN (p : Int) : Nat := if p = -1 then 24 else p.toNat
theorem hk_dom {R : Nat → Int} {t p : Int} (h : told R t p) : domF R (hkN p) := by
  unfold hkN
  split
  · exact Or.inr rfl
  · have w := (h.resolve_left (by assumption)).2
    have w1 := w.1
    have w2 := w.2
    exact Or.inl (by omega)
/-- steps -/
theorem c_28 {sc : Int → Int} {i : Int} {μ : xM} (hi : Inv μ) : tl_28 sc i μ Inv := by
  obtain ⟨p1, e1⟩ : ∃ w, w = sc (i + 1) := ⟨_, rfl⟩
  obtain ⟨p2, e2⟩ : ∃ w, w = sc (i + 2) := ⟨_, rfl⟩
  obtain ⟨p3, e3⟩ : ∃ w, w = sc (i + 3) := ⟨_, rfl⟩
  obtain ⟨p4, e4⟩ : ∃ w, w = sc (i + 4) := ⟨_, rfl⟩
  unfold tl_28
  rw [← e1, ← e2, ← e3, ← e4]
  have hK : ∀ a, a ≠ 4 → Inv (tr μ a) := fun a => Inv_tr hi
  rcases hi.os with h | h
  · have h14 := h.1
    have hR := h.2.1
    have bW := hR.W
    have bT := hR.T
    have bN := hR.N
    have no14 : ∀ a : Int, ¬ (wi (wi (wi μ 0 18 a) 260 0 0) 260 11 0) 260 14 = 0 := fun a z => absurd (h14.symm.trans z) (by decide)
    have fin : ∀ a : Int, a ≠ 4 → Inv (wi (wi (wi (wi μ 0 18 a) 260 0 0) 260 11 0) 260 11 a) := fun a ha => K_no (hK a ha)
    -- refusals of the reference
    have ref1 : ¬ (told (μ 263) 0 p1 ∧ told (μ 263) 1 p2 ∧ told (μ 263) 2 p3) → tX11_steps p1 p2 p3 p4 (wi μ 0 18 1) (fun r' ω => xIn r' → xRan ω → -1 = r' ∧ Inv ω) := by
      intro z _ _ _ _ _
      exact s_good (fun _ => ⟨fun y => absurd y (no14 1), fun _ => r_told (iOpen_m h _) (m_263 μ _) (by omega) (fun t0 _ _ => ⟨fun y => absurd y (by decide), fun _ => r_told (iOpen_m h _) (m_263 μ _) (by omega) (fun t1 _ _ => ⟨fun y => absurd y (by decide), fun _ => r_told (iOpen_m h _) (m_263 μ _) (by omega) (fun t2 => absurd ⟨t0, t1, t2⟩ z) (fun _ _ _ => ⟨fun y => absurd y (by decide), fun _ => s_no (fun _ _ _ _ => ⟨rfl, fin 1 (by decide)⟩)⟩)⟩) (fun _ _ _ => ⟨fun _ => s_no (fun _ _ _ _ => ⟨rfl, fin 1 (by decide)⟩), fun y => absurd y (by decide)⟩)⟩) (fun _ _ _ => ⟨fun _ => s_no (fun _ _ _ _ => ⟨rfl, fin 1 (by decide)⟩), fun y => absurd y (by decide)⟩)⟩)
    by_cases tt : told (μ 263) 0 p1 ∧ told (μ 263) 1 p2 ∧ told (μ 263) 2 p3
    · obtain ⟨t0, t1, t2⟩ := tt
      have ref2 : ¬ (0 ≤ p4 ∧ p4 ≤ 8) → tX11_steps p1 p2 p3 p4 (wi μ 0 18 2) (fun r' ω => xIn r' → xRan ω → -1 = r' ∧ Inv ω) := by
        intro z _ _ _ _ _
        exact s_good (fun _ => ⟨fun y => absurd y (no14 2), fun _ => r_told (iOpen_m h _) (m_263 μ _) (by omega) (fun _ _ _ => ⟨fun y => absurd y (by decide), fun _ => r_told (iOpen_m h _) (m_263 μ _) (by omega) (fun _ _ _ => ⟨fun y => absurd y (by decide), fun _ => r_told (iOpen_m h _) (m_263 μ _) (by omega) (fun _ _ _ => ⟨fun _ => s_within (fun y1 y2 => absurd ⟨y1, y2⟩ z) (fun _ _ _ => ⟨fun y => absurd y (by decide), fun _ => s_no (fun _ _ _ _ => ⟨rfl, fin 2 (by decide)⟩)⟩), fun y => absurd y (by decide)⟩) (fun y => absurd t2 y)⟩) (fun y => absurd t1 y)⟩) (fun y => absurd t0 y)⟩)
      by_cases rg : 0 ≤ p4 ∧ p4 ≤ 8
      · have ref5 : ¬ (egF (μ 263) p1 ∧ egF (μ 263) p2 ∧ egF (μ 263) p3) → tX11_steps p1 p2 p3 p4 (wi μ 0 18 5) (fun r' ω => xIn r' → xRan ω → -1 = r' ∧ Inv ω) := by
          intro z _ _ _ _ _
          exact s_good (fun _ => ⟨fun y => absurd y (no14 5), fun _ => r_told (iOpen_m h _) (m_263 μ _) (by omega) (fun _ _ _ => ⟨fun y => absurd y (by decide), fun _ => r_told (iOpen_m h _) (m_263 μ _) (by omega) (fun _ _ _ => ⟨fun y => absurd y (by decide), fun _ => r_told (iOpen_m h _) (m_263 μ _) (by omega) (fun _ _ _ => ⟨fun _ => s_within (fun _ _ _ _ => ⟨fun _ => r_eg (m_263 μ _) bW.2 t0 (fun g0 _ _ => ⟨fun y => absurd y (by decide), fun _ => r_eg (m_263 μ _) bW.2 t1 (fun g1 _ _ => ⟨fun y => absurd y (by decide), fun _ => r_eg (m_263 μ _) bW.2 t2 (fun g2 => absurd ⟨g0, g1, g2⟩ z) (fun _ _ _ => ⟨fun y => absurd y (by decide), fun _ => s_no (fun _ _ _ _ => ⟨rfl, fin 5 (by decide)⟩)⟩)⟩) (fun _ _ _ => ⟨fun _ => s_no (fun _ _ _ _ => ⟨rfl, fin 5 (by decide)⟩), fun y => absurd y (by decide)⟩)⟩) (fun _ _ _ => ⟨fun _ => s_no (fun _ _ _ _ => ⟨rfl, fin 5 (by decide)⟩), fun y => absurd y (by decide)⟩), fun y => absurd y (by decide)⟩) (fun y => absurd rg y), fun y => absurd y (by decide)⟩) (fun y => absurd t2 y)⟩) (fun y => absurd t1 y)⟩) (fun y => absurd t0 y)⟩)
        by_cases gg : egF (μ 263) p1 ∧ egF (μ 263) p2 ∧ egF (μ 263) p3
        · obtain ⟨g0, g1, g2⟩ := gg
          obtain ⟨gl, egl⟩ : ∃ gl : Nat → Nat, gl = fun j => if j = 0 then hkN p1 else if j = 1 then hkN p2 else hkN p3 := ⟨_, rfl⟩
          have gl0 : gl 0 = hkN p1 := by rw [egl]; rfl
          have gl1 : gl 1 = hkN p2 := by rw [egl]; rfl
          have gl2 : gl 2 = hkN p3 := by rw [egl]; rfl
          have gd : ∀ j, j < 3 → domF (μ 263) (gl j) := by
            intro j hj
            rcases (show j = 0 ∨ j = 1 ∨ j = 2 by omega) with rfl | rfl | rfl
            · rw [gl0]; exact hk_dom t0
            · rw [gl1]; exact hk_dom t1
            · rw [gl2]; exact hk_dom t2
          have gT : ∀ j : Nat, j < 3 → μ 263 0 ≤ (j : Int) → gl j = 24 := by
            intro j hj z
            have un : ∀ (t p : Int), told (μ 263) t p → μ 263 0 ≤ t → hkN p = 24 := fun t p u y => by
              unfold hkN
              rw [if_pos (u.resolve_right (fun u => by have := u.1; omega))]
            rcases (show j = 0 ∨ j = 1 ∨ j = 2 by omega) with rfl | rfl | rfl
            · rw [gl0]; exact un 0 p1 t0 z
            · rw [gl1]; exact un 1 p2 t1 z
            · rw [gl2]; exact un 2 p3 t2 z
          have glle : ∀ j, j < 3 → gl j ≤ 24 := fun j hj => domF_le hR (gd j hj)
          have glf := cdF_lt glle
          have k0 : p1 ≠ -1 → p1 = (gl 0 : Nat) := fun z => by
            have := (t0.resolve_left z).2.1
            rw [gl0]; unfold hkN; rw [if_neg z]; omega
          have k0' : p1 = -1 → (24 : Int) = (gl 0 : Nat) := fun z => by rw [gl0]; unfold hkN; rw [if_pos z]; rfl
          have k1 : p2 ≠ -1 → p2 = (gl 1 : Nat) := fun z => by
            have := (t1.resolve_left z).2.1
            rw [gl1]; unfold hkN; rw [if_neg z]; omega
          have k1' : p2 = -1 → (24 : Int) = (gl 1 : Nat) := fun z => by rw [gl1]; unfold hkN; rw [if_pos z]; rfl
          have k2 : p3 ≠ -1 → p3 = (gl 2 : Nat) := fun z => by
            have := (t2.resolve_left z).2.1
            rw [gl2]; unfold hkN; rw [if_neg z]; omega
          have k2' : p3 = -1 → (24 : Int) = (gl 2 : Nat) := fun z => by rw [gl2]; unfold hkN; rw [if_pos z]; rfl
          have N := h.2.2.2.1.1
          obtain ⟨s, sg, sn, ss, st⟩ := N.nt
          obtain ⟨n, en⟩ : ∃ n, n = (μ 249 1).toNat := ⟨_, rfl⟩
          have n249 : μ 249 1 = n := by have := N.2.2.1.2.1; omega
          have n265 : μ 265 4 = n := by rw [← n249]; exact N.2.2.1.1.symm
          have nle : (n : Int) ≤ μ 263 4 := by have := N.2.2.1.2.2; omega
          rw [← en] at sg
          have okb : okX (μ 263) n s.1 := ⟨fun j hj => by
            rcases (sg.1.le j hj).2.1 with z | z
            · exact Or.inr z
            · exact Or.inl z.1, fun j hj z => (sg.1.le j hj).2.2 z, by
            have := sg.1.2
            simp only [Int.toNat_natCast] at this
            exact this⟩
          have sle : ∀ j, j < 3 → s.1 j ≤ 24 := fun j hj => (sg.1.le j hj).1
          have slf := cdF_lt sle
          obtain ⟨F, hF, hF2⟩ := dist_ex (adj := adjW (μ 263) 1 n p4) (N := 15625) slf
          obtain ⟨res, eres⟩ : ∃ r : Int, r = if 0 ≤ F (cdF gl) then F (cdF gl) else -2 := ⟨_, rfl⟩
          -- the reference's answer
          have ref : ∀ ν : xM, clS μ ν → tX11_steps p1 p2 p3 p4 (wi ν 0 18 0) (fun r' ω => xIn r' → xRan ω → res = r' ∧ Inv ω) := by
            intro ν c
            have iv := Inv_st hi c
            have v3 : ν 263 = μ 263 := c.1 263 (by omega)
            have v5 : ν 265 = μ 265 := c.1 265 (by omega)
            have v0 : ν 260 = μ 260 := c.1 260 (by omega)
            have ov : iOpen ν := by
              rcases iv.os with z | z
              · exact z
              · have z1 := z.1; rw [v0, h14] at z1; exact absurd z1 (by decide)
            obtain ⟨M, eM⟩ : ∃ M, M = wi (wi (wi ν 0 18 0) 260 0 0) 260 11 0 := ⟨_, rfl⟩
            have oM : iOpen M := by rw [eM]; exact iOpen_m ov 0
            have M3 : M 263 = μ 263 := by rw [eM]; exact v3
            have M5 : M 265 = μ 265 := by rw [eM]; exact v5
            have M14 : M 260 14 = 1 := oM.1
            have b131 : tX11_steps_b131 p1 p2 p3 p4 ((gl 0 : Nat) + 25 * (gl 1 : Nat)) 625 (gl 2 : Nat) M (fun r' ω => xIn r' → xRan ω → res = r' ∧ Inv ω) := by
              intro _
              refine w_code sle (fun t ht => ?_) (fun _ _ => ?_)
              · rw [M5]
                have := st t ht
                rw [Nat.zero_add] at this
                exact this
              · rw [cdF_cd, M5, n265]
                refine r_walk oM.w M3 okb.1 (by omega) nle (Or.inr rfl) (fun ω l w1 w2 w3 w4 w5 w6 w7 _ _ => ?_)
                have ei : (((gl 0 : Nat) : Int) + 25 * (gl 1 : Nat) + 625 * (gl 2 : Nat)) = (cdF gl : Nat) := by unfold cdF cdN; omega
                have eq : ω 278 (cdF gl) = F (cdF gl) := isDist_u w2 hF _ glf
                have iw : Inv ω := by
                  refine Inv_scr (a := 0) iv (fun k hk => ?_) (by decide)
                  rw [w1 k (by rintro rfl; exact hk (by unfold scrK; omega)) (by rintro rfl; exact hk (by unfold scrK; omega)) (by rintro rfl; exact hk (by unfold scrK; omega)), eM]
                  rfl
                rw [ei, Int.toNat_natCast, eq]
                refine ⟨⟨by omega, by omega⟩, fun z _ _ => ⟨by rw [eres, if_pos z], iw⟩, fun z _ _ => ⟨by rw [eres, if_neg z], iw⟩⟩
            have b115 : tX11_steps_b115 p1 p2 p3 p4 (gl 0 : Nat) 25 (gl 1 : Nat) M (fun r' ω => xIn r' → xRan ω → res = r' ∧ Inv ω) := by
              intro _
              refine ⟨fun z => ?_, fun z => ?_⟩
              · have q := b131; rw [← k2 z] at q; exact q
              · have q := b131; rw [← k2' z] at q; exact q
            have b102 : tX11_steps_b102 p1 p2 p3 p4 (gl 0 : Nat) M (fun r' ω => xIn r' → xRan ω → res = r' ∧ Inv ω) := by
              intro _
              refine ⟨fun z => ?_, fun z => ?_⟩
              · have q := b115; rw [← k1 z] at q; exact q
              · have q := b115; rw [← k1' z] at q; exact q
            intro _ _ _ _ _
            refine s_good ?_
            rw [← eM]
            intro _
            refine ⟨fun y => absurd (M14.symm.trans y) (by decide), fun _ => r_told oM M3 (by omega) (fun _ _ _ => ⟨fun y => absurd y (by decide), fun _ => r_told oM M3 (by omega) (fun _ _ _ => ⟨fun y => absurd y (by decide), fun _ => r_told oM M3 (by omega) (fun _ _ _ => ⟨fun _ => s_within (fun _ _ _ _ => ⟨fun _ => r_eg M3 bW.2 t0 (fun _ _ _ => ⟨fun y => absurd y (by decide), fun _ => r_eg M3 bW.2 t1 (fun _ _ _ => ⟨fun y => absurd y (by decide), fun _ => r_eg M3 bW.2 t2 (fun _ _ _ => ⟨fun _ => ⟨fun z => ?_, fun z => ?_⟩, fun y => absurd y (by decide)⟩) (fun y => absurd g2 y)⟩) (fun y => absurd g1 y)⟩) (fun y => absurd g0 y), fun y => absurd y (by decide)⟩) (fun y => absurd rg y), fun y => absurd y (by decide)⟩) (fun y => absurd t2 y)⟩) (fun y => absurd t1 y)⟩) (fun y => absurd t0 y)⟩
            · have q := b102; rw [← k0 z] at q; exact q
            · have q := b102; rw [← k0' z] at q; exact q
          -- the class's answer
          have c128 : tX10_steps_b128 p1 p2 p3 p4 (gl 0 : Nat) (gl 1 : Nat) (gl 2 : Nat) μ (fun r ν => xIn r → xRan ν → tX11_steps p1 p2 p3 p4 ν (fun r' ω => xIn r' → xRan ω → r = r' ∧ Inv ω)) := by
            have l0 := glle 0 (by omega); have l1 := glle 1 (by omega); have l2 := glle 2 (by omega)
            intro _
            refine ⟨⟨by omega, by omega⟩, ⟨by omega, by omega⟩, ⟨by omega, by omega⟩, s_codeOf glle (fun _ _ => s_climb h.w hi.2.2.1.2.2.1 okb n249 nle (fun t ht => ?_) gd gT hF hF2 (fun ω c _ _ => s_granted (fun _ _ _ _ => ?_)))⟩
            · exact sn.1 t ht
            · rw [← eres]; exact ref ω c
          have c117 : tX10_steps_b117 p1 p2 p3 p4 (gl 0 : Nat) (gl 1 : Nat) μ (fun r ν => xIn r → xRan ν → tX11_steps p1 p2 p3 p4 ν (fun r' ω => xIn r' → xRan ω → r = r' ∧ Inv ω)) := by
            intro _
            refine ⟨fun z => ?_, fun z => ?_⟩
            · have q := c128; rw [← k2 z] at q; exact q
            · have q := c128; rw [← k2' z] at q; exact q
          have c106 : tX10_steps_b106 p1 p2 p3 p4 (gl 0 : Nat) μ (fun r ν => xIn r → xRan ν → tX11_steps p1 p2 p3 p4 ν (fun r' ω => xIn r' → xRan ω → r = r' ∧ Inv ω)) := by
            intro _
            refine ⟨fun z => ?_, fun z => ?_⟩
            · have q := c117; rw [← k1 z] at q; exact q
            · have q := c117; rw [← k1' z] at q; exact q
          intro _ _ _ _ _
          refine k_open h (fun _ _ => ⟨fun y => absurd y (by decide), fun _ => s_told h (fun _ _ _ => ⟨fun y => absurd y (by decide), fun _ => s_told h (fun _ _ _ => ⟨fun y => absurd y (by decide), fun _ => s_told h (fun _ _ _ => ⟨fun _ => ⟨fun y => absurd rg.1 (by omega), fun _ => ⟨fun _ => s_eg h (fun _ _ _ => ⟨fun y => absurd y (by decide), fun _ => s_eg h (fun _ _ _ => ⟨fun y => absurd y (by decide), fun _ => s_eg h (fun _ _ _ => ⟨fun _ => ⟨fun z => ?_, fun z => ?_⟩, fun y => absurd y (by decide)⟩) (fun y => absurd g2 y)⟩) (fun y => absurd g1 y)⟩) (fun y => absurd g0 y), fun y => absurd rg.2 y⟩⟩, fun y => absurd y (by decide)⟩) (fun y => absurd t2 y)⟩) (fun y => absurd t1 y)⟩) (fun y => absurd t0 y)⟩)
          · have q := c106; rw [← k0 z] at q; exact q
          · have q := c106; rw [← k0' z] at q; exact q
        · have r5 := ref5 gg
          intro _ _ _ _ _
          refine k_open h (fun _ _ => ⟨fun y => absurd y (by decide), fun _ => s_told h (fun _ _ _ => ⟨fun y => absurd y (by decide), fun _ => s_told h (fun _ _ _ => ⟨fun y => absurd y (by decide), fun _ => s_told h (fun _ _ _ => ⟨fun _ => ⟨fun y => absurd rg.1 (by omega), fun _ => ⟨fun _ => s_eg h (fun g0 _ _ => ⟨fun y => absurd y (by decide), fun _ => s_eg h (fun g1 _ _ => ⟨fun y => absurd y (by decide), fun _ => s_eg h (fun g2 => absurd ⟨g0, g1, g2⟩ gg) (fun _ _ _ => ⟨fun y => absurd y (by decide), fun _ => s_refused (fun _ _ _ _ => r5)⟩)⟩) (fun _ _ _ => ⟨fun _ => s_refused (fun _ _ _ _ => r5), fun y => absurd y (by decide)⟩)⟩) (fun _ _ _ => ⟨fun _ => s_refused (fun _ _ _ _ => r5), fun y => absurd y (by decide)⟩), fun y => absurd rg.2 y⟩⟩, fun y => absurd y (by decide)⟩) (fun y => absurd t2 y)⟩) (fun y => absurd t1 y)⟩) (fun y => absurd t0 y)⟩)
      · have r2 := ref2 rg
        intro _ _ _ _ _
        refine k_open h (fun _ _ => ⟨fun y => absurd y (by decide), fun _ => s_told h (fun _ _ _ => ⟨fun y => absurd y (by decide), fun _ => s_told h (fun _ _ _ => ⟨fun y => absurd y (by decide), fun _ => s_told h (fun _ _ _ => ⟨fun _ => ⟨fun _ => s_refused (fun _ _ _ _ => r2), fun y1 => ⟨fun y2 => absurd ⟨by omega, y2⟩ rg, fun _ => s_refused (fun _ _ _ _ => r2)⟩⟩, fun y => absurd y (by decide)⟩) (fun y => absurd t2 y)⟩) (fun y => absurd t1 y)⟩) (fun y => absurd t0 y)⟩)
    · have r1 := ref1 tt
      intro _ _ _ _ _
      refine k_open h (fun _ _ => ⟨fun y => absurd y (by decide), fun _ => s_told h (fun t0 _ _ => ⟨fun y => absurd y (by decide), fun _ => s_told h (fun t1 _ _ => ⟨fun y => absurd y (by decide), fun _ => s_told h (fun t2 => absurd ⟨t0, t1, t2⟩ tt) (fun _ _ _ => ⟨fun y => absurd y (by decide), fun _ => s_refused (fun _ _ _ _ => r1)⟩)⟩) (fun _ _ _ => ⟨fun _ => s_refused (fun _ _ _ _ => r1), fun y => absurd y (by decide)⟩)⟩) (fun _ _ _ => ⟨fun _ => s_refused (fun _ _ _ _ => r1), fun y => absurd y (by decide)⟩)⟩)
  · have h14 := h.1
    have ref : tX11_steps p1 p2 p3 p4 (wi μ 0 18 1) (fun r' ω => xIn r' → xRan ω → -1 = r' ∧ Inv ω) := by
      intro _ _ _ _ _
      exact s_good (fun _ => ⟨fun _ => s_no (fun _ _ _ _ => ⟨rfl, K_no (hK 1 (by decide))⟩), fun z => absurd h14 z⟩)
    intro _ _ _ _ _
    exact k_shut h (fun _ _ => ⟨fun _ => s_refused (fun _ _ _ _ => ref), fun z => absurd z (by decide)⟩)
