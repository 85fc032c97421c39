/-! the reference's hosts -/
theorem eC_e1 {R : Nat → Int} {x : Int} {f : Nat → Nat} {s : oS} (ok : okS R x f s) (hf : ∀ t, t < 3 → f t ≤ 24) : (eC f s < 0 ↔ e1 s < 0) ∧ -1 ≤ eC f s ∧ eC f s < 15625 := by
  cases s with
  | none => simp [eC, e1]
  | some p =>
    obtain ⟨_, _, p3, _⟩ := ok p rfl
    have q := wt_rng (a := (f 0 : Int)) (b := f 1) (c := f 2) (t := p.1) (w := p.2.1) ⟨by omega, by have := hf 0 (by omega); omega⟩ ⟨by omega, by have := hf 1 (by omega); omega⟩ ⟨by omega, by have := hf 2 (by omega); omega⟩ ⟨by omega, by omega⟩
    simp only [eC, e1]
    exact ⟨⟨fun z => by omega, fun z => by omega⟩, by omega, by omega⟩
theorem resF_ok {R C : Nat → Int} {host : Int} {g : Nat} {f : Nat → Nat} (hR : okR R) (hC : ∀ v, xIn (C v)) (hf : fOK R f g) {t v : Nat} (h : resF R C host g f = some (t, v)) : (t : Int) < R 0 ∧ byF R (f t) v = R (295 + g) ∧ v < 24 := by
  have bT := hR.T
  have bN := hR.N
  have ok := okS_N (x := R (295 + g)) (host := host) (n := (R 4).toNat - (g + 1)) hR hC hf (by omega) (R 0).toNat (by omega)
  unfold resF at h
  split at h
  · cases h
  · rename_i p hp
    split at h
    · cases h
    · simp only [Option.some.injEq, Prod.mk.injEq] at h
      obtain ⟨rfl, rfl⟩ := h
      have q := ok p hp
      exact ⟨q.1, q.2.1, q.2.2.1⟩
theorem memS.rf {μ : xM} (h : iMem μ) : memS μ μ := ⟨fun _ _ => rfl, h⟩
theorem memS.o {μ ν : xM} (h : memS μ ν) (hi : iOpW μ) : iOpW ν := iOpW_a h.s.a hi
theorem r_seated {μ : xM} {host : Int} {g : Nat} {f : Nat → Nat} {Q : Int → xM → Prop} (h : iOpW μ) (hm : iMem μ) (hf : fOK (μ 263) f g) (hg : (g : Int) < μ 263 4) (h0 : 0 ≤ host) (h3 : host ≤ 3) (hC : ∀ v, xIn (μ 268 v))
    (hq0 : resF (μ 263) (μ 268) host g f = none → ∀ ν, memS μ ν → Q (-1) ν)
    (hq1 : ∀ t v : Nat, resF (μ 263) (μ 268) host g f = some (t, v) → ∀ ν, memS μ ν → Q (wt (f 0) (f 1) (f 2) t v) ν) : tX11_seated host g (cd (f 0) (f 1) (f 2)) μ Q := by
  have hR := h.2.1
  have bT := hR.T
  have bW := hR.W
  have bN := hR.N
  have bx := hR.fst hg
  have l0 := (hf.le 0 (by omega)).1
  have l1 := (hf.le 1 (by omega)).1
  have l2 := (hf.le 2 (by omega)).1
  have k0 : k3 (f 0) := ⟨by omega, by omega⟩
  have k1 : k3 (f 1) := ⟨by omega, by omega⟩
  have k2 : k3 (f 2) := ⟨by omega, by omega⟩
  obtain ⟨x, hx⟩ : ∃ x, x = μ 263 (295 + g) := ⟨_, rfl⟩
  obtain ⟨n, hn⟩ : ∃ n, n = (μ 263 4).toNat - (g + 1) := ⟨_, rfl⟩
  obtain ⟨S, hS⟩ : ∃ S, S = scF (μ 263) (μ 268) host n f := ⟨_, rfl⟩
  have eres : resF (μ 263) (μ 268) host g f = match bstN (μ 263) x S f (μ 263 0).toNat with
    | none => none
    | some p => if host = 3 ∧ p.2.2 < mostF (μ 263) n (f 0) (f 1) (f 2) then none else some (p.1, p.2.1) := by
    unfold resF; rw [← hx, ← hn, ← hS]; rfl
  have okN : ∀ t : Nat, (t : Int) ≤ μ 263 0 → okS (μ 263) x f (bstN (μ 263) x S f t) := by
    rw [hS]; exact okS_N hR hC hf (by omega)
  have xg : xIn ((g : Int) + 1) := ⟨by omega, by omega⟩
  intro _ _ _ _
  refine up3c (n := μ 263 0) (fun t a b ν => memS μ ν ∧ a = eC f (bstN (μ 263) x S f t.toNat) ∧ b = e3 (bstN (μ 263) x S f t.toNat)) (by omega) ⟨memS.rf hm, rfl, rfl⟩ ?_
  rintro t a b ν K t0 t1 ⟨f1, ea, eb⟩ _ hK
  obtain ⟨tn, rfl⟩ : ∃ tn : Nat, t = tn := ⟨t.toNat, by omega⟩
  rw [Int.toNat_natCast] at ea eb
  have o1 := f1.o h
  have m3 : ν 263 = μ 263 := f1.1 263 (by omega)
  have ok := okN tn (by omega)
  have bd := ok.in1 hR
  have bC := eC_e1 ok (fun t ht => (hf.le t ht).1)
  have xa : xIn a := by rw [ea]; exact ⟨by omega, by omega⟩
  rw [m3]
  refine ⟨⟨by omega, by omega⟩, fun d => ?_, fun d => ?_⟩
  · have et : tn = (μ 263 0).toNat := by omega
    rw [et] at ea eb ok
    cases hb : bstN (μ 263) x S f (μ 263 0).toNat with
    | none =>
      rw [hb] at ea eres
      have ea1 : a = -1 := ea
      have fin : Q a ν := by rw [ea1]; exact hq0 eres ν f1
      exact ⟨fun _ => ⟨xa, fin⟩, fun _ => ⟨xa, fun _ => fin, fun z => absurd (show a < 0 by omega) z⟩⟩
    | some p =>
      obtain ⟨p1, p2, p3, p4⟩ := ok p hb
      rw [hb] at ea eb eres
      have ea1 : a = wt (f 0) (f 1) (f 2) p.1 p.2.1 := ea
      have eb1 : b = p.2.2 := eb
      have wr := wt_rng (t := p.1) (w := p.2.1) k0 k1 k2 ⟨by omega, by omega⟩
      have yes : ¬ (host = 3 ∧ p.2.2 < mostF (μ 263) n (f 0) (f 1) (f 2)) → ∀ ω, memS μ ω → Q a ω := by
        intro z ω f2
        rw [ea1]
        refine hq1 _ _ ?_ ω f2
        rw [eres]; simp only; rw [if_neg z]
      refine ⟨fun z => ⟨xa, yes (fun y => z y.1) ν f1⟩, fun z => ⟨xa, fun y => absurd y (by omega), fun _ => ⟨xg, ?_⟩⟩⟩
      rw [cdN_cd]
      refine w_mostOf n 12 (by omega) _ _ _ _ ν _ o1 f1.2 (by rw [m3]; omega) (by omega) l0 l1 l2 (by rw [m3]; exact hf.vt) (fun ω f2 _ _ => ⟨by rw [eb1]; exact p4, fun y => yes (fun y2 => ?_) ω (f1.tt f2), fun y => hq0 ?_ ω (f1.tt f2)⟩)
      · rw [m3] at y; have := y2.2; omega
      · rw [m3] at y
        rw [eres]; simp only; rw [if_pos ⟨z, by omega⟩]
  · have tl : tn < 3 := by omega
    have ft := hf.le tn tl
    have ftw : f tn = 24 ∨ ((f tn : Nat) : Int) < μ 263 3 := by
      rcases ft.2.1 with z | z
      · exact Or.inl z
      · exact Or.inr z.1
    have epk : pk (f 0 : Int) (f 1) (f 2) (tn : Int) = f tn := pk_st (f := fun j => (f j : Int)) tl
    have inl : ∀ i : Nat, i ≤ 24 → ∀ v ∈ upR (μ 263) (f tn) x i, byF (μ 263) (f tn) v = x ∧ v < 24 ∧ xIn (S tn v) := by
      intro i hi v hv
      have q := upR_mem hv
      refine ⟨q.2, by omega, ?_⟩
      rw [hS]; exact scF_in hR (hC v) (byF_word (w := f tn) (by omega)) ftw (by omega)
    refine up3c (n := μ 263 3) (fun v a b ξ => memS μ ξ ∧ a = eC f (bstT S tn (upR (μ 263) (f tn) x v.toNat) (bstN (μ 263) x S f tn)) ∧ b = e3 (bstT S tn (upR (μ 263) (f tn) x v.toNat) (bstN (μ 263) x S f tn))) (by omega) ⟨f1, ea, eb⟩ ?_
    rintro v a b ξ K2 v0 v1 ⟨f2, ea2, eb2⟩ _ hK2
    obtain ⟨vn, rfl⟩ : ∃ vn : Nat, v = vn := ⟨v.toNat, by omega⟩
    rw [Int.toNat_natCast] at ea2 eb2
    have o2 := f2.o h
    have m32 : ξ 263 = μ 263 := f2.1 263 (by omega)
    have okI := okS_T (S := S) (t := tn) (by omega) _ _ ok (inl vn (by omega))
    have bdI := okI.in1 hR
    have bCI := eC_e1 okI (fun t ht => (hf.le t ht).1)
    have xa2 : xIn a := by rw [ea2]; exact ⟨by omega, by omega⟩
    have xb2 : xIn b := by rw [eb2]; exact bdI.2.2.2.2
    have nv : ((vn : Int) + 1).toNat = vn + 1 := by omega
    rw [m32]
    refine ⟨⟨by omega, by omega⟩, fun d2 => hK _ _ _ (by omega) ⟨f2, ?_⟩, fun d2 => ⟨⟨by omega, by omega⟩, ⟨by omega, by omega⟩, ?_⟩⟩
    · rw [show ((tn : Int) + 1).toNat = tn + 1 by omega]
      show a = eC f (bstT S tn (upsBy (μ 263) (f tn) x) (bstN (μ 263) x S f tn)) ∧ b = e3 (bstT S tn (upsBy (μ 263) (f tn) x) (bstN (μ 263) x S f tn))
      rw [upR_out hR (by omega), ← show vn = (μ 263 3).toNat by omega]
      exact ⟨ea2, eb2⟩
    · rw [show (295 + (g : Int)).toNat = 295 + g by omega, ← hx]
      refine w_wordAfter o2 m32 k0 k1 k2 v0 (by omega) (fun y _ _ => ⟨fun _ => r_wordOf k0 k1 k2 (fun _ _ => ?_), fun z => absurd (wt_rng k0 k1 k2 ⟨v0, by omega⟩).1 z⟩) (fun y _ _ => ⟨fun z => absurd z (by decide), fun _ => hK2 _ _ _ (by omega) ⟨f2, ?_⟩⟩)
      · rw [epk, Int.toNat_natCast, Int.toNat_natCast] at y
        have ef : upR (μ 263) (f tn) x (vn + 1) = upR (μ 263) (f tn) x vn ++ [vn] := upR_y y
        have vw : (vn : Int) < μ 263 3 := by omega
        have xS : xIn (S tn vn) := by rw [hS]; exact scF_in hR (hC vn) vw ftw (by omega)
        have yes : ∀ ω, memS μ ω → (a < 0 ∨ b < S tn vn) → K2 (wt (f 0) (f 1) (f 2) tn vn) (S tn vn) (vn + 1) ω := by
          intro ω f3 hc
          refine hK2 _ _ _ (by omega) ⟨f3, ?_⟩
          rw [nv, ef, bstT_snoc]
          by_cases y2 : e1 (bstT S tn (upR (μ 263) (f tn) x vn) (bstN (μ 263) x S f tn)) < 0
          · rw [bst1_n y2]
            exact ⟨rfl, rfl⟩
          · have : ¬ a < 0 := by rw [ea2]; exact fun z => y2 (bCI.1.1 z)
            rw [bst1_y y2 (by have := hc.resolve_left this; omega)]
            exact ⟨rfl, rfl⟩
        have noo : ∀ ω, memS μ ω → ¬ a < 0 → ¬ b < S tn vn → K2 a b (vn + 1) ω := by
          intro ω f3 c1 c2
          refine hK2 _ _ _ (by omega) ⟨f3, ?_⟩
          rw [nv, ef, bstT_snoc, bst1_k (by rw [ea2] at c1; exact fun z => c1 (bCI.1.2 z)) (by omega)]
          exact ⟨ea2, eb2⟩
        have S0 : host = 0 → S tn vn = 0 := fun q => by rw [hS]; unfold scF; rw [if_neg (by omega), if_neg (by omega), if_neg (by omega)]
        have S1 : host = 1 → S tn vn = μ 268 vn := fun q => by rw [hS]; unfold scF; rw [if_pos q]
        have S2 : host = 2 → S tn vn = μ 263 (175 + vn) - (if f tn = 24 then 0 else μ 263 (175 + f tn)) := fun q => by rw [hS]; unfold scF; rw [if_neg (by omega), if_pos q]
        have S3 : host = 3 → S tn vn = 1 + mostF (μ 263) n (sT f tn vn 0) (sT f tn vn 1) (sT f tn vn 2) := fun q => by rw [hS]; unfold scF; rw [if_neg (by omega), if_neg (by omega), if_pos q]
        rw [epk]
        refine ⟨fun q => ⟨fun q1 => ⟨fun q2 => ⟨xg, ?_⟩, fun q2 => ?_⟩, fun q1 => ⟨⟨by omega, by omega⟩, xa2, ?_⟩⟩, fun q => ⟨xa2, ?_⟩⟩
        · have ew : wt (f 0) (f 1) (f 2) tn vn = (cdN (sT f tn vn 0) (sT f tn vn 1) (sT f tn vn 2) : Int) := by
            rw [wt_tb (by omega) (by omega), Int.toNat_natCast]; rfl
          have sl : ∀ j, j < 3 → sT f tn vn j ≤ 24 := by
            intro j hj
            unfold sT
            split
            · omega
            · exact (hf.le j hj).1
          have svt : vtF (μ 263) (sT f tn vn 1) (sT f tn vn 2) := by
            have vt := hf.vt
            refine ⟨fun z => ?_, fun z => ?_⟩
            · unfold sT; rw [if_neg (by omega)]; exact vt.1 z
            · unfold sT; rw [if_neg (by omega)]; exact vt.2 z
          have S3 := S3 (by omega)
          rw [ew] at yes ⊢
          refine w_mostOf n 12 (by omega) _ _ _ _ ξ _ o2 f2.2 (by rw [m32]; omega) (by omega) (sl 0 (by omega)) (sl 1 (by omega)) (sl 2 (by omega)) (by rw [m32]; exact svt) (fun ω f3 _ _ => ?_)
          rw [m32, ← S3]
          exact ⟨xa2, fun z => yes ω (f2.tt f3) (Or.inl z), fun z => ⟨xS, xb2, fun z2 => yes ω (f2.tt f3) (Or.inr z2), fun z2 => noo ω (f2.tt f3) z z2⟩⟩
        · have S2 := S2 q2
          have c1 := hR.val vw
          have fin : ∀ c : Int, c = (if f tn = 24 then 0 else μ 263 (175 + f tn)) → tX11_seated_b132 host g (cd (f 0) (f 1) (f 2)) a b tn vn (wt (f 0) (f 1) (f 2) tn vn) (μ 263 (175 + vn)) c ξ Q K K2 := by
            intro c hc _
            rw [hc, ← S2]
            exact ⟨xa2, fun z => yes ξ f2 (Or.inl z), fun z => ⟨xS, xb2, fun z2 => yes ξ f2 (Or.inr z2), fun z2 => noo ξ f2 z z2⟩⟩
          rw [show (175 + (vn : Int)).toNat = 175 + vn by omega, m32]
          refine ⟨⟨by omega, by omega⟩, fun z => ⟨⟨by omega, by omega⟩, ?_⟩, fun z => fin 0 ?_⟩
          · rw [show (175 + ((f tn : Nat) : Int)).toNat = 175 + f tn by omega]
            exact fin _ (by rw [if_neg (by omega)])
          · rw [if_pos (by omega)]
        · rw [f2.1 268 (by omega), Int.toNat_natCast, ← S1 q1]
          exact ⟨fun z => yes ξ f2 (Or.inl z), fun z => ⟨xb2, fun z2 => yes ξ f2 (Or.inr z2), fun z2 => noo ξ f2 z z2⟩⟩
        · rw [S0 q] at yes noo
          exact ⟨fun z => yes ξ f2 (Or.inl z), fun z => ⟨xb2, fun z2 => yes ξ f2 (Or.inr z2), fun z2 => noo ξ f2 z z2⟩⟩
      · rw [epk, Int.toNat_natCast, Int.toNat_natCast] at y
        rw [nv, upR_n y]
        exact ⟨ea2, eb2⟩
