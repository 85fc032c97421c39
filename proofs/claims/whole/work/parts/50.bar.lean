/-! bar -/
theorem bar_m {μ : xM} {w b : Int} {P : Int → xM → Prop} (hi : Inv μ) (hb : b = 0 ∨ b = 1) (hP : ∀ r ν, tX11_bar w b ν (fun r' ω => (r' = 0 ∨ r' = 1) → xRan ω → ((r = r') ∧ (Inv ω))) → P r ν) : tX10_bar w b μ (fun r ν => (r = 0 ∨ r = 1) → xRan ν → P r ν) := by
  have hK : ∀ a, a ≠ 4 → Inv (tr μ a) := fun a => Inv_tr hi
  rcases hi.os with h | h
  · have bW := h.2.1.W
    have hN := h.2.2.2.1.1
    by_cases hw : wordF (μ 263) w
    · have w0 := hw.1
      have w1 := hw.2
      have bb := h.2.1.bar (w := w.toNat) (by omega)
      by_cases hs : μ 263 (199 + w.toNat) = b
      · have ref : tX11_bar w b (wi μ 0 18 5) (fun r' ν => (r' = 0 ∨ r' = 1) → xRan ν → ((0 = r') ∧ (Inv ν))) := by
          intro _ _ _
          refine s_good (fun _ => r_word (iOpen_m h _) (m_263 μ _) (fun _ _ _ => ⟨fun _ => ⟨⟨by omega, by omega⟩, fun z _ => ⟨?_, ⟨by decide, by decide⟩, fun y => absurd ?_ y, fun _ => s_isNot (fun _ _ _ _ => ⟨rfl, K_no (hK 5 (by decide))⟩)⟩, fun z _ => ⟨?_, ⟨by decide, by decide⟩, fun y => absurd ?_ y, fun _ => s_isNot (fun _ _ _ _ => ⟨rfl, K_no (hK 5 (by decide))⟩)⟩⟩, fun z => absurd z (by decide)⟩) (fun z => absurd hw z))
          · show xIn (μ 263 ((199 + w).toNat))
            rw [show (199 + w).toNat = 199 + w.toNat by omega]; exact xIz bb
          · show μ 263 ((199 + w).toNat) = 0
            rw [show (199 + w).toNat = 199 + w.toNat by omega, hs]; exact z
          · show xIn (μ 263 ((199 + w).toNat))
            rw [show (199 + w).toNat = 199 + w.toNat by omega]; exact xIz bb
          · show μ 263 ((199 + w).toNat) = 1
            rw [show (199 + w).toNat = 199 + w.toNat by omega, hs]; exact z
        intro _ _ _
        refine k_word h (fun _ _ _ => ⟨fun _ => k_barred h (fun _ q _ _ => ⟨fun z => absurd (q.symm.trans hs) z, fun _ => s_denied (fun _ _ _ _ => hP _ _ ref)⟩) (fun _ q _ _ => ⟨fun z => absurd (q.symm.trans hs) z, fun _ => s_denied (fun _ _ _ _ => hP _ _ ref)⟩) (fun z => absurd hw z), fun z => absurd z (by decide)⟩) (fun z => absurd hw z)
      · obtain ⟨R, eR⟩ : ∃ R : Nat → Int, R = fun j => if j = 199 + w.toNat then b else μ 263 j := ⟨_, rfl⟩
        have Rj : ∀ j, j ≠ 199 + w.toNat → R j = μ 263 j := fun j hj => by rw [eR]; exact if_neg hj
        have Rg : R (199 + w.toNat) = b := by rw [eR]; exact if_pos rfl
        have hR : okR R := by
          have o := h.2.1
          refine ⟨?_, ?_, ?_, ?_, ?_, ?_, ?_, fun u hu => ?_, fun g2 hg2 => ?_, fun j hj => ?_, fun j hj => ?_⟩
          · rw [Rj 0 (by omega)]; exact o.T
          · rw [Rj 1 (by omega)]; exact o.C
          · rw [Rj 2 (by omega)]; exact o.G
          · rw [Rj 3 (by omega)]; exact o.W
          · rw [Rj 4 (by omega)]; exact o.N
          · rw [Rj 5 (by omega)]; exact o.K
          · rw [Rj 6 (by omega)]; exact o.S
          · rw [Rj 3 (by omega)] at hu
            have bl := o.len hu
            rw [Rj (7 + u) (by omega), Rj (175 + u) (by omega)]
            refine ⟨o.len hu, o.val hu, ?_, fun j hj => ?_⟩
            · by_cases e : u = w.toNat
              · rw [e, Rg]; exact hb
              · rw [Rj (199 + u) (by omega)]; exact o.bar hu
            · rw [Rj (31 + 6 * u + j) (by omega)]; exact o.let hu hj
          · rw [Rj 4 (by omega)] at hg2
            rw [Rj (295 + g2) (by omega)]; exact o.fst hg2
          · rw [Rj 5 (by omega)] at hj
            rw [Rj (303 + j) (by omega), Rj (309 + j) (by omega)]; exact o.lik hj
          · rw [Rj 6 (by omega)] at hj
            rw [Rj (315 + j) (by omega), Rj 3 (by omega)]; exact o.see hj
        have cls : ∀ Q : xM → Prop, (∀ ν, iHo ν R → cGrow ν R → (ν 249 0 = μ 249 0 ∧ ν 249 1 = 0 ∧ ν 249 2 = 0 ∧ ∀ t : Nat, t < 3 → ν 250 t = 24) → (∃ A, rnw A ν) → iBase ν → ν 35 = μ 35 → ν 36 = μ 36 → ν 261 = μ 261 → ν 260 = μ 260 → ν 263 = μ 263 → ν 265 = μ 265 → Q ν) →
            tX2_setBarred 39 w b μ (fun μ11 => xRan μ11 → (tX1_settle μ11 (fun μ13 => xRan μ13 → (tX4_begin 249 (μ13 249 0) μ13 (fun μ16 => xRan μ16 → (tX10_renew μ16 (fun μ18 => xRan μ18 → Q μ18))))))) := by
          intro Q hQ _ _ _
          refine k_word h (fun _ _ _ => ⟨fun z => absurd z (by decide), fun _ => ⟨⟨w0, by omega⟩, wl fun _ _ => ?_⟩⟩) (fun z => absurd hw z)
          have e68 : (39 + 29) = 68 := rfl
          have ho1 : iHo (wi μ (39 + 29) w.toNat b) R := by
            have o := h.2.2.1
            have q2 : ∀ k, k ≠ 68 → wi μ (39 + 29) w.toNat b k = μ k := fun k c => by funext j; exact wi_cell c
            refine ⟨hR, fun j hj => ?_, fun u hu hu2 => ?_, fun j hj => ?_, fun g2 hg2 => ?_, fun j hj => ?_, fun j hj => ?_⟩
            · rw [q2 39 (by omega), Rj j (by omega)]; exact o.1 j hj
            · rw [Rj 3 (by omega)] at hu2
              have bl := h.2.1.len hu2
              have := o.2.1 u hu hu2
              rw [q2 40 (by omega), q2 41 (by omega), Rj (7 + u) (by omega), Rj (175 + u) (by omega)]
              refine ⟨this.1, this.2.1, ?_, fun j hj => ?_⟩
              · by_cases e : u = w.toNat
                · rw [e, Rg]; exact wi_self _ _ _ _
                · rw [Rj (199 + u) (by omega)]
                  exact (wi_place e).trans this.2.2.1
              · rw [q2 (43 + u) (by omega), Rj (31 + 6 * u + j) (by omega)]; exact this.2.2.2 j hj
            · rw [q2 67 (by omega)]; exact o.2.2.1 j hj
            · rw [Rj 4 (by omega)] at hg2
              rw [q2 69 (by omega), Rj (295 + g2) (by omega)]; exact o.2.2.2.1 g2 hg2
            · rw [Rj 5 (by omega)] at hj
              rw [q2 70 (by omega), q2 71 (by omega), Rj (303 + j) (by omega), Rj (309 + j) (by omega)]; exact o.2.2.2.2.1 j hj
            · rw [Rj 6 (by omega)] at hj
              rw [q2 72 (by omega), Rj (315 + j) (by omega)]; exact o.2.2.2.2.2 j hj
          refine s_settle ho1 (fun u v a c d e => ?_) (fun S s1 s2 _ => s_begin (fun _ => ?_))
          · rw [Rj 3 (by omega)] at d e
            rw [wvF_c h.2.1 (fun j hj => Rj j (by omega)) d e, show wi μ (39 + 29) w.toNat b (75 + u) v = μ (75 + u) v from wi_cell (by omega)]
            exact h.2.2.2.2.1 u v a c d e
          · have sk : ∀ k, ¬ in101 k → k ≠ 68 → S k = μ k := fun k q q2 => (s1 k q).trans (by funext j; exact wi_cell q2)
            have bg : ∀ k, k ≠ 249 → k ≠ 250 → bgM S 249 (S 249 0) k = S k := fun k a c => by funext j; simp [bgM, fillM, wi, a, c]
            have Ab : iBase (bgM S 249 (S 249 0)) := iBase_c (fun k hk => (bg k (by omega) (by omega)).trans (sk k (by unfold in101; omega) (by omega))) (by rw [bg 236 (by omega) (by omega), sk 236 (by unfold in101; omega) (by omega)]) (by rw [bg 236 (by omega) (by omega), sk 236 (by unfold in101; omega) (by omega)]) hi.2.2.1
            refine s_renew Ab (fun B hB _ => ?_)
            have Bk : ∀ k, k ≠ 0 → ¬ (209 ≤ k ∧ k < 251) → B k = S k := fun k a c => (hB.1 k a (by omega) (by omega) (by omega) (by omega)).trans (bg k (by omega) (by omega))
            have Bm : ∀ k, k ≠ 0 → ¬ (209 ≤ k ∧ k < 251) → ¬ in101 k → k ≠ 68 → B k = μ k := fun k a c d e => (Bk k a c).trans (sk k d e)
            refine hQ B (iHo_c (fun k a c => (Bk k (by omega) (by omega)).trans (s1 k (by unfold in101; omega))) ho1) (cGrow_c hR (fun _ _ => rfl) (fun k a c => Bk k (by omega) (by omega)) s2) ?_ ⟨_, hB⟩ (rnw_base hB Ab) (Bm 35 (by omega) (by omega) (by unfold in101; omega) (by omega)) (Bm 36 (by omega) (by omega) (by unfold in101; omega) (by omega)) (Bm 261 (by omega) (by omega) (by unfold in101; omega) (by omega)) (Bm 260 (by omega) (by omega) (by unfold in101; omega) (by omega)) (Bm 263 (by omega) (by omega) (by unfold in101; omega) (by omega)) (Bm 265 (by omega) (by omega) (by unfold in101; omega) (by omega))
            rw [hB.1 249 (by omega) (by omega) (by omega) (by omega) (by omega), hB.1 250 (by omega) (by omega) (by omega) (by omega) (by omega)]
            refine ⟨?_, rfl, rfl, fun t ht => ?_⟩
            · show S 249 0 = μ 249 0
              rw [sk 249 (by unfold in101; omega) (by omega)]
            · rcases (show t = 0 ∨ t = 1 ∨ t = 2 by omega) with rfl | rfl | rfl <;> rfl
        have ref : ∀ ν, iHo ν R → cGrow ν R → (ν 249 0 = μ 249 0 ∧ ν 249 1 = 0 ∧ ν 249 2 = 0 ∧ ∀ t : Nat, t < 3 → ν 250 t = 24) → (∃ A, rnw A ν) → iBase ν → ν 35 = μ 35 → ν 36 = μ 36 → ν 261 = μ 261 → ν 260 = μ 260 → ν 263 = μ 263 → ν 265 = μ 265 →
            tX11_bar w b (wi ν 0 18 0) (fun r' ω => (r' = 0 ∨ r' = 1) → xRan ω → ((1 = r') ∧ (Inv ω))) := by
          intro B hHo hCg B249 hA Bb B35 B36 B261 B260 B263 B265 _ _ _
          obtain ⟨A, zz⟩ := hA
          obtain ⟨N, hNN⟩ : ∃ N, N = wi B 0 18 0 := ⟨_, rfl⟩
          have Nk : ∀ k, k ≠ 0 → N k = B k := fun k a => by rw [hNN]; funext j; exact wi_cell a
          rw [← hNN]
          have g263 : wi (wi N 260 0 0) 260 11 0 263 = μ 263 := (show _ = N 263 from rfl).trans ((Nk 263 (by omega)).trans B263)
          have g14 : wi (wi N 260 0 0) 260 11 0 260 14 = 1 := by
            show N 260 14 = 1
            rw [Nk 260 (by omega), B260]; exact h.1
          refine s_good (fun _ => ?_)
          intro _ _
          rw [g263]
          have wk : ∀ k, k ≠ 260 → k ≠ 263 → wi (wi (wi N 260 0 0) 260 11 0) 263 (199 + w.toNat) b k = N k := by
            intro k a c
            funext j
            rw [wi_cell c, wi_cell a, wi_cell a]
          have e263 : wi (wi (wi N 260 0 0) 260 11 0) 263 (199 + w.toNat) b 263 = R := by
            funext j
            rw [eR]
            show (if 263 = 263 ∧ j = 199 + w.toNat then b else wi (wi N 260 0 0) 260 11 0 263 j) = _
            rw [g263]
            by_cases e : j = 199 + w.toNat
            · rw [if_pos ⟨rfl, e⟩]; exact (if_pos e).symm
            · rw [if_neg (fun z => e z.2)]; exact (if_neg e).symm
          have did : tX11_did (wi (wi (wi N 260 0 0) 260 11 0) 263 (199 + w.toNat) b) (fun r21 μ19 => (r21 = 0 ∨ r21 = 1) → xRan μ19 → (r21 = 0 ∨ r21 = 1) → xRan μ19 → ((1 = r21) ∧ (Inv μ19))) := by
            refine r_did e263 hR (fun ω q1 q2 q3 q4 q5 q6 _ _ _ _ => ⟨rfl, ?_⟩)
            have ck : ∀ k, 211 ≤ k → k < 235 → ω k = B k := fun k a c => ((q1 k (by omega)).trans (wk k (by omega) (by omega))).trans (Nk k (by omega))
            refine Inv_act (ν := N) (h := μ 249 0) hi h hR hN.2.1.2.1 hN.2.1.2.2 (iHo_c (fun k a c => Nk k (by omega)) hHo) (cGrow_c hR (fun _ _ => rfl) (fun k a c => Nk k (by omega)) hCg) ?_ (iCache_c (fun k hk => Nk k (by omega)) (rnw_cache zz)) (iBase_c (fun k hk => Nk k (by omega)) (by rw [Nk 236 (by omega)]) (by rw [Nk 236 (by omega)]) Bb) ?_ ((Nk 35 (by omega)).trans B35) ((Nk 36 (by omega)).trans B36) ((Nk 261 (by omega)).trans B261) ((Nk 260 (by omega)).trans B260) ?_ (fun k hk => (q1 k hk).trans (wk k (by omega) (by omega))) q2 q3 ⟨?_, q4.2⟩ q5 ?_ (fun j a c d => ?_) (fun y => ?_)
            · rw [Nk 249 (by omega), Nk 250 (by omega)]; exact B249
            · rw [hNN, wi_place (by omega)]; exact zz.2.2.1
            · rw [hNN]; exact wi_self _ _ _ _
            · rw [q4.1, wk 265 (by omega) (by omega), Nk 265 (by omega), B265]
              exact hN.2.1.1.symm
            · rw [q6 11 (by omega)]; rfl
            · rw [q6 j d]
              rw [show wi (wi (wi N 260 0 0) 260 11 0) 263 (199 + w.toNat) b 260 j = N 260 j by rw [wi_cell (by omega), wi_place c, wi_place a], Nk 260 (by omega), B260]
            · refine ⟨fun z => ?_, fun z => ?_, fun z => ?_, fun j hj z => ?_, fun x y z h1 h2 h3 _ g _ => ?_, fun x y z h1 h2 h3 _ k hk => ?_⟩
              · rw [ck 211 (by omega) (by omega)] at z; exact absurd zz.2.2.2.1 z
              · rw [ck 216 (by omega) (by omega)] at z; exact absurd zz.2.2.2.2.1 z
              · rw [ck 221 (by omega) (by omega)] at z; exact absurd zz.2.2.2.2.2.1 z
              · rw [ck 231 (by omega) (by omega), zz.2.2.2.2.2.2.1 j hj] at z; omega
              · left
                rw [ck 233 (by omega) (by omega), zz.2.2.2.2.2.2.2.1 _ (slotN_lt h1 h2 h3)]; exact nib_zero g
              · left
                rw [ck 234 (by omega) (by omega)]
                exact zz.2.2.2.2.2.2.2.2 _ (by have := slotN_lt h1 h2 h3; omega)
          refine ⟨fun z => absurd (g14.symm.trans z) (by decide), fun _ => ⟨⟨by omega, by omega⟩, s_within (fun _ _ _ _ => ⟨fun z => absurd z (by decide), fun _ _ _ => ⟨fun _ => ⟨⟨by omega, by omega⟩, ?_⟩, fun z => absurd z (by decide)⟩⟩) (fun z => absurd ⟨w0, by omega⟩ z)⟩⟩
          have e199 : (199 + w).toNat = 199 + w.toNat := by omega
          rw [g263, e199]
          have b37 : ∀ s, s = b → tX11_bar_b37 w b (μ 263 (199 + w.toNat)) s (wi (wi N 260 0 0) 260 11 0) (fun r' ω => (r' = 0 ∨ r' = 1) → xRan ω → ((1 = r') ∧ (Inv ω))) := by
            intro s es _
            rw [e199]
            refine ⟨xIz bb, by rw [es]; exact xIz hb, fun _ => ⟨fun z => ⟨⟨by omega, by omega⟩, wl fun _ => ?_⟩, fun z => ⟨⟨by omega, by omega⟩, wl fun _ => ?_⟩⟩, fun z => absurd (z.trans es) hs⟩
            · rw [z] at did; exact did
            · rw [z] at did; exact did
          exact ⟨fun z => b37 0 z.symm, fun z => b37 1 z.symm⟩
        intro _ _ _
        refine k_word h (fun _ _ _ => ⟨fun _ => k_barred h (fun _ q _ _ => ⟨fun _ => ?_, fun z => absurd (q.trans z) hs⟩) (fun _ q _ _ => ⟨fun _ => ?_, fun z => absurd (q.trans z) hs⟩) (fun z => absurd hw z), fun z => absurd z (by decide)⟩) (fun z => absurd hw z)
        · exact cls _ (fun ν a1 a2 a3 a4 a5 a6 a7 a8 a9 a10 a11 => s_allowed (fun _ _ _ _ => hP _ _ (ref ν a1 a2 a3 a4 a5 a6 a7 a8 a9 a10 a11)))
        · exact cls _ (fun ν a1 a2 a3 a4 a5 a6 a7 a8 a9 a10 a11 => s_allowed (fun _ _ _ _ => hP _ _ (ref ν a1 a2 a3 a4 a5 a6 a7 a8 a9 a10 a11)))
    · intro _ _ _
      refine k_word h (fun z => absurd z hw) (fun _ _ _ => ⟨fun z => absurd z (by decide), fun _ => s_denied (fun _ _ _ _ => hP _ _ ?_)⟩)
      intro _ _ _
      exact s_good (fun _ => r_word (iOpen_m h _) (m_263 μ _) (fun z => absurd z hw) (fun _ _ _ => ⟨fun z => absurd z (by decide), fun _ => s_isNot (fun _ _ _ _ => ⟨rfl, K_no (hK 1 (by decide))⟩)⟩))
  · intro _ _ _
    refine k_wordS h (fun _ _ => ⟨fun z => absurd z (by decide), fun _ => s_denied (fun _ _ _ _ => hP _ _ ?_)⟩)
    intro _ _ _
    exact s_good (fun _ => r_wordS (iShut_m h _) (fun _ _ => ⟨fun z => absurd z (by decide), fun _ => s_isNot (fun _ _ _ _ => ⟨rfl, K_no (hK 1 (by decide))⟩)⟩))
theorem c_40 {sc : Int → Int} {i : Int} {μ : xM} (hi : Inv μ) : tl_40 sc i μ Inv := by
  by_cases hz : sc (i + 2) = 0
  · exact ⟨fun _ => bar_m hi (Or.inl rfl) (fun r ν m => ⟨fun _ => m, fun z => absurd hz z⟩), fun z => absurd hz z⟩
  · exact ⟨fun z => absurd z hz, fun _ => bar_m hi (Or.inr rfl) (fun r ν m => ⟨fun z => absurd z hz, fun _ => m⟩)⟩
