theorem nGd_0 {R : Nat → Int} : nGd R ((fun _ => 24), 0) 0 := by
  refine ⟨⟨fun t ht => ⟨by simp only; omega, by simp only; omega, Or.inl rfl, fun _ => rfl⟩, fun x _ _ => ?_⟩, by simp only; omega, by simp only; decide⟩
  show cntW R 24 x + cntW R 24 x + cntW R 24 x ≤ cntG R 0 x
  rw [cntW_24]
  show 0 + 0 + 0 ≤ (0 : Int)
  omega
theorem s_host {μ : xM} {p : Int} {Q : Int → xM → Prop} (h1 : 0 ≤ p → p ≤ 3 → Q 1 μ) (h0 : ¬ (0 ≤ p ∧ p ≤ 3) → Q 0 μ) : tX10_isHost p μ Q := by
  intro _ _
  exact ⟨fun c => h0 (by omega), fun c => ⟨fun d => h0 (by omega), fun d => h1 (by omega) (by omega)⟩⟩
/-- sits -/
theorem c_30 {sc : Int → Int} {i : Int} {μ : xM} (hi : Inv μ) : tl_30 sc i μ Inv := by
  obtain ⟨p, ep⟩ : ∃ w, w = sc (i + 1) := ⟨_, rfl⟩
  unfold tl_30
  rw [← ep]
  have hK : ∀ a, a ≠ 4 → Inv (tr μ a) := fun a => Inv_tr hi
  rcases hi.os with h | h
  · have h14 := h.1
    have hw := h.w
    have hR := h.2.1
    have bN := hR.N
    have e4 := h.2.2.1.1 4 (by omega)
    by_cases hp : 0 ≤ p ∧ p ≤ 3
    · intro rr _
      have hC : ∀ v, xIn (μ 268 v) := fun v => rr.i (by omega)
      obtain ⟨s, es⟩ : ∃ s : nT, s = ((fun _ => 24), 0) := ⟨_, rfl⟩
      have sg : nGd (μ 263) s 0 := by rw [es]; exact nGd_0
      have gd : ∀ k : Nat, (k : Int) ≤ μ 263 4 → nGd (μ 263) (nit (μ 263) (μ 268) p 0 s k) k := fun k hk => by
        have := nit_ok (host := p) hR hC sg k (by omega)
        rw [Nat.zero_add] at this
        exact this
      have st0 : ∀ k, nit (μ 263) (μ 268) p 0 s (k + 1) = nstp (μ 263) (μ 268) p k (nit (μ 263) (μ 268) p 0 s k) := fun k => by
        show nstp _ _ _ (0 + k) _ = _
        rw [Nat.zero_add]
      refine k_open h (fun _ _ => ⟨fun z => absurd z (by decide), fun _ => s_host (fun _ _ _ _ => ⟨fun _ => s_begin (fun _ => ?_), fun z => absurd z (by decide)⟩) (fun z => absurd hp z)⟩)
      have b1 : nfS 251 μ (bgM μ 251 p) := by
        refine nfS.wr (by omega) (by omega) (ν := μ) ⟨fun _ _ _ _ _ => rfl, fun _ _ => rfl, fun z => ⟨rfl, z⟩, (hi.cache h).2.2.2.2.1⟩ (fun k a b => ?_)
        funext j
        unfold bgM fillM
        rw [if_neg (by omega), wi_cell a, wi_cell a, wi_cell a]
      have b2 : isNt (bgM μ 251 p) 251 p s.1 (0 : Nat) s.2 := by
        rw [es]
        refine ⟨fun t ht => ?_, rfl, rfl, rfl⟩
        show (if (252 : Nat) = 252 ∧ t < 3 then (24 : Int) else _) = 24
        rw [if_pos ⟨rfl, ht⟩]
      refine up1 (n := μ 263 4) (fun k ν => nfS 251 μ ν ∧ isNt ν 251 p (nit (μ 263) (μ 268) p 0 s k.toNat).1 (k.toNat : Nat) (nit (μ 263) (μ 268) p 0 s k.toNat).2) (by omega) ⟨b1, b2⟩ ?_
      rintro k ν K k0 k1 ⟨c1, cN⟩ _ hKK
      obtain ⟨kn, rfl⟩ : ∃ kn : Nat, k = kn := ⟨k.toNat, by omega⟩
      rw [Int.toNat_natCast] at cN
      have m4 : ν 39 4 = μ 263 4 := by rw [c1.1 39 (by omega) (by omega) (by omega) (by omega), e4]
      have gk := gd kn (by omega)
      rw [m4]
      refine ⟨⟨by omega, by omega⟩, fun z => s_bitCount (fun _ _ => s_granted (fun _ _ _ _ => ?_)), fun z => s_recN hw (by omega) (by omega) c1 cN gk (by omega) hp.1 hp.2 hC (fun ω d1 d2 _ => hKK ω (by omega) ⟨d1, ?_⟩)⟩
      · rw [cN.2.2.2]
        have ekn : (kn : Int) = μ 263 4 := by omega
        obtain ⟨M, eM⟩ : ∃ M, M = wi (wi (wi ν 0 18 0) 260 0 0) 260 11 0 := ⟨_, rfl⟩
        have Mk : ∀ k, k ≠ 0 → k ≠ 260 → M k = ν k := fun k a b => by rw [eM]; funext j; rw [wi_cell b, wi_cell b, wi_cell a]
        have M3 : M 263 = μ 263 := (Mk 263 (by omega) (by omega)).trans (c1.1 263 (by omega) (by omega) (by omega) (by omega))
        have M8 : M 268 = μ 268 := (Mk 268 (by omega) (by omega)).trans (c1.1 268 (by omega) (by omega) (by omega) (by omega))
        have n260 : ν 260 = μ 260 := c1.1 260 (by omega) (by omega) (by omega) (by omega)
        have M14 : M 260 14 = 1 := by rw [eM]; show ν 260 14 = 1; rw [n260]; exact h14
        have Mo : iOpW M := iOpW_c (show M 260 14 = ν 260 14 by rw [M14, n260, h14]) (fun k hk => Mk k (by omega) (by omega)) (c1.o (by omega) (by omega) hw)
        intro _ _
        refine s_good ?_
        rw [← eM]
        intro _
        refine ⟨fun z => absurd (M14.symm.trans z) (by decide), fun _ => s_within (fun _ _ _ _ => ⟨fun _ => r_forget ?_, fun z => absurd z (by decide)⟩) (fun z => absurd hp z)⟩
        obtain ⟨F, eF⟩ : ∃ F, F = fillM M 276 140625 (-1) := ⟨_, rfl⟩
        have Fk : ∀ k, k ≠ 276 → F k = M k := fun k hk => by rw [eF]; funext j; simp [fillM, hk]
        have F3 : F 263 = μ 263 := (Fk 263 (by omega)).trans M3
        have F8 : F 268 = μ 268 := (Fk 268 (by omega)).trans M8
        have Fm : iMem F := by
          intro a b c ha hb hc2 _ g2 hg2
          rw [F3] at hg2
          left
          rw [eF]
          simp only [fillM]
          rw [if_pos ⟨trivial, by unfold cdN; omega⟩]
        have Fo : iOpW F := iOpW_c (by rw [Fk 260 (by omega)]) (fun k hk => Fk k (by omega)) Mo
        rw [← eF]
        intro _ _ _ _
        refine up3c (n := μ 263 4) (fun j c n ξ => memS F ξ ∧ c = cd ((nit (μ 263) (μ 268) p 0 s j.toNat).1 0) ((nit (μ 263) (μ 268) p 0 s j.toNat).1 1) ((nit (μ 263) (μ 268) p 0 s j.toNat).1 2) ∧ n = bc (nit (μ 263) (μ 268) p 0 s j.toNat).2 ∧ 0 ≤ n ∧ n ≤ j) (by omega) ⟨memS.rf Fm, ?_, ?_, by omega, by omega⟩ ?_
        · show _ = cd (s.1 0) (s.1 1) (s.1 2)
          rw [es]; decide
        · show _ = bc s.2
          rw [es, bc_zero]
        · rintro j c n ξ K3 j0 j1 ⟨f1, ec, en, n0, n1⟩ _ hK3
          obtain ⟨jn, rfl⟩ : ∃ jn : Nat, j = jn := ⟨j.toNat, by omega⟩
          rw [Int.toNat_natCast] at ec en
          have X3 : ξ 263 = μ 263 := (f1.1 263 (by omega)).trans F3
          have X8 : ξ 268 = μ 268 := (f1.1 268 (by omega)).trans F8
          have gj := gd jn (by omega)
          have l0 := (gj.1.le 0 (by omega)).1
          have l1 := (gj.1.le 1 (by omega)).1
          have l2 := (gj.1.le 2 (by omega)).1
          rw [X3]
          refine ⟨⟨by omega, by omega⟩, fun y => ⟨⟨by omega, by omega⟩, fun _ _ => ⟨?_, ?_⟩⟩, fun y => ⟨by rw [ec]; unfold cd xIn; omega, ?_⟩⟩
          · rw [en, show jn = kn by omega]
          · have fb := c1.bk (by omega) (by omega)
            refine Inv_scr (a := 0) (Inv_fut hi h fb) (fun k hk => ?_) (by decide)
            rw [f1.1 k (by rintro rfl; exact hk (by unfold scrK; omega)), Fk k (by rintro rfl; exact hk (by unfold scrK; omega)), eM]
            have y1 : k ≠ 251 := by rintro rfl; exact hk (by unfold scrK; omega)
            have y2 : k ≠ 252 := by rintro rfl; exact hk (by unfold scrK; omega)
            funext j
            simp only [tr, wi, bak_n y1 y2]
          · rw [ec]
            have nj : ((jn : Int) + 1).toNat = jn + 1 := by omega
            refine r_seated (f1.o Fo) f1.2 (by rw [X3]; exact gj.1) (by rw [X3]; omega) hp.1 hp.2 (by rw [X8]; exact hC) (fun hr ω f2 _ _ => ⟨fun q => absurd q (by decide), fun _ => ⟨fun q => absurd q (by decide), fun _ => hK3 _ _ _ (by omega) ⟨f1.tt f2, ?_⟩⟩⟩) (fun t v hr ω f2 _ _ => ?_)
            · rw [X3, X8] at hr
              have e : nit (μ 263) (μ 268) p 0 s (jn + 1) = nit (μ 263) (μ 268) p 0 s jn := by rw [st0]; unfold nstp; rw [hr]
              rw [nj, e]
              exact ⟨rfl, by omega, by omega, by omega⟩
            · rw [X3, X8] at hr
              obtain ⟨r1, r2, r3⟩ := resF_ok hR hC gj.1 hr
              have bT := hR.T
              have e : nit (μ 263) (μ 268) p 0 s (jn + 1) = (sT (nit (μ 263) (μ 268) p 0 s jn).1 t v, (nit (μ 263) (μ 268) p 0 s jn).2 + pw (jn : Int)) := by rw [st0]; unfold nstp; rw [hr]
              have wr := wt_rng (a := ((nit (μ 263) (μ 268) p 0 s jn).1 0 : Int)) (b := (nit (μ 263) (μ 268) p 0 s jn).1 1) (c := (nit (μ 263) (μ 268) p 0 s jn).1 2) (t := t) (w := v) ⟨by omega, by omega⟩ ⟨by omega, by omega⟩ ⟨by omega, by omega⟩ ⟨by omega, by omega⟩
              have bs := bc_succ (n := (jn : Int)) (by omega) (by omega) gj.2.1 gj.2.2
              refine ⟨fun _ => ⟨fun _ => hK3 _ _ _ (by omega) ⟨f1.tt f2, ?_⟩, fun q => absurd wr.1 q⟩, fun q => absurd wr.1 q⟩
              rw [nj, e]
              refine ⟨?_, ?_, by omega, by omega⟩
              · rcases (show t = 0 ∨ t = 1 ∨ t = 2 by omega) with rfl | rfl | rfl <;> rfl
              · show n + 1 = bc (_ + _)
                rw [bs, en]
      · rw [show ((kn : Int) + 1).toNat = kn + 1 by omega, st0]
        exact d2
    · have ref : tX11_sits p (wi μ 0 18 1) (fun r' ω => xIn r' → xRan ω → -1 = r' ∧ Inv ω) := by
        intro _ _
        exact s_good (fun _ => ⟨fun z => absurd (h14.symm.trans z) (by decide), fun _ => s_within (fun y1 y2 => absurd ⟨y1, y2⟩ hp) (fun _ _ _ => ⟨fun z => absurd z (by decide), fun _ => s_no (fun _ _ _ _ => ⟨rfl, K_no (hK 1 (by decide))⟩)⟩)⟩)
      intro _ _
      exact k_open h (fun _ _ => ⟨fun z => absurd z (by decide), fun _ => s_host (fun y1 y2 => absurd ⟨y1, y2⟩ hp) (fun _ _ _ => ⟨fun z => absurd z (by decide), fun _ => s_refused (fun _ _ _ _ => ref)⟩)⟩)
  · have h14 := h.1
    unfold tX10_sits
    repeat' (first
      | with_reducible refine k_shut h ?_
      | with_reducible refine s_refused ?_
      | with_reducible refine s_good ?_
      | with_reducible refine s_no ?_
      | (intro zq; exact absurd zq (by decide))
      | (intro zq; exact absurd h14 zq)
      | intro _
      | with_reducible refine And.intro ?_ ?_)
    all_goals first | rfl | contradiction | (exact K_no (hK _ (by decide))) | (exact hK _ (by decide)) | omega | (unfold goodI wordF at *; omega) | skip
