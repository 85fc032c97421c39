/-! nights, guest by guest -/
abbrev nT : Type := (Nat → Nat) × Int
noncomputable def nstp (R C : Nat → Int) (host : Int) (g : Nat) (s : nT) : nT := match resF R C host g s.1 with | none => s | some p => (sT s.1 p.1 p.2, s.2 + pw g)
noncomputable def nit (R C : Nat → Int) (host : Int) (g : Nat) (s : nT) : Nat → nT
  | 0 => s
  | k + 1 => nstp R C host (g + k) (nit R C host g s k)
def nGd (R : Nat → Int) (s : nT) (g : Nat) : Prop := fOK R s.1 g ∧ 0 ≤ s.2 ∧ s.2 < pw g
theorem nstp_ok {R C : Nat → Int} {host : Int} {g : Nat} {s : nT} (hR : okR R) (hC : ∀ v, xIn (C v)) (h : nGd R s g) (hg : (g : Int) < R 4) : nGd R (nstp R C host g s) (g + 1) := by
  have q := pw_succ (n := (g : Int)) (by omega)
  have b := pw_le (n := (g : Int)) (by omega) (by have := hR.N; omega)
  have c1 : ((g + 1 : Nat) : Int) = (g : Int) + 1 := by omega
  unfold nGd at *
  rw [c1]
  cases hr : resF R C host g s.1 with
  | none =>
    have e : nstp R C host g s = s := by unfold nstp; rw [hr]
    rw [e]
    exact ⟨h.1.up (by omega), h.2.1, by omega⟩
  | some p =>
    have e : nstp R C host g s = (sT s.1 p.1 p.2, s.2 + pw g) := by unfold nstp; rw [hr]
    obtain ⟨r1, r2, _⟩ := resF_ok hR hC h.1 (show resF R C host g s.1 = some (p.1, p.2) from hr)
    rw [e]
    exact ⟨h.1.grow hR (by omega) hg r1 (by simpa using r2), by simp only; omega, by simp only; omega⟩
theorem nit_ok {R C : Nat → Int} {host : Int} {g : Nat} {s : nT} (hR : okR R) (hC : ∀ v, xIn (C v)) (h : nGd R s g) : ∀ k : Nat, ((g + k : Nat) : Int) ≤ R 4 → nGd R (nit R C host g s k) (g + k) := by
  intro k
  induction k with
  | zero => intro _; exact h
  | succ k ih => intro hk; exact nstp_ok hR hC (ih (by omega)) (by omega)
/-- what the class may have written, nights too -/
def nfS (o : Nat) (μ ν : xM) : Prop := (∀ k, k ≠ 232 → k ≠ 233 → k ≠ o → k ≠ o + 1 → ν k = μ k) ∧ (∀ j, j ≠ 4 → ν 232 j = μ 232 j) ∧ (ν 232 4 = 0 → ν 233 = μ 233 ∧ μ 232 4 = 0) ∧ iSit ν
theorem nfS.fu {o : Nat} {μ ν ω : xM} (h : nfS o μ ν) (h2 : futS ν ω) : nfS o μ ω := ⟨fun k a b c d => (h2.1 k a b).trans (h.1 k a b c d), fun j hj => (h2.2.1 j hj).trans (h.2.1 j hj), fun z => ⟨((h2.2.2.1 z).1).trans (h.2.2.1 (h2.2.2.1 z).2).1, (h.2.2.1 (h2.2.2.1 z).2).2⟩, h2.2.2.2⟩
theorem iSit_c {μ ν : xM} (h1 : ν 233 = μ 233) (h2 : ν 263 = μ 263) (h : iSit μ) : iSit ν := by
  unfold iSit at *
  rw [h1, h2]; exact h
theorem nfS.wr {o : Nat} {μ ν ω : xM} (ho : 240 ≤ o) (ho2 : o < 258) (h : nfS o μ ν) (h2 : ∀ k, k ≠ o → k ≠ o + 1 → ω k = ν k) : nfS o μ ω := by
  refine ⟨fun k a b c d => (h2 k c d).trans (h.1 k a b c d), fun j hj => ?_, fun z => ?_, iSit_c (h2 233 (by omega) (by omega)) (h2 263 (by omega) (by omega)) h.2.2.2⟩
  · rw [h2 232 (by omega) (by omega)]; exact h.2.1 j hj
  · rw [h2 232 (by omega) (by omega)] at z
    rw [h2 233 (by omega) (by omega)]; exact h.2.2.1 z
theorem nfS.o {o : Nat} {μ ν : xM} (h : nfS o μ ν) (ho : 240 ≤ o) (ho2 : o < 258) (hi : iOpW μ) : iOpW ν := by
  refine iOpW_c ?_ (fun k hk => h.1 k (by omega) (by omega) (by omega) (by omega)) hi
  rw [h.1 260 (by omega) (by omega) (by omega) (by omega)]
def bak (o : Nat) (μ ν : xM) : xM := fun k => if k = o ∨ k = o + 1 then μ k else ν k
theorem bak_n {o : Nat} {μ ν : xM} {k : Nat} (h : k ≠ o) (h2 : k ≠ o + 1) : bak o μ ν k = ν k := by unfold bak; rw [if_neg (by omega)]
theorem nfS.bk {o : Nat} {μ ν : xM} (h : nfS o μ ν) (ho : 240 ≤ o) (ho2 : o < 258) : futS μ (bak o μ ν) := by
  refine ⟨fun k a b => ?_, fun j hj => ?_, fun z => ?_, iSit_c (bak_n (by omega) (by omega)) (bak_n (by omega) (by omega)) h.2.2.2⟩
  · unfold bak
    split
    · rfl
    · exact h.1 k a b (by omega) (by omega)
  · rw [bak_n (by omega) (by omega)]; exact h.2.1 j hj
  · rw [bak_n (by omega) (by omega)] at z
    rw [bak_n (by omega) (by omega)]; exact h.2.2.1 z
theorem s_recN {μ ν : xM} {o : Nat} {host : Int} {g : Nat} {s : nT} {Q : xM → Prop} (h : iOpW μ) (ho : 240 ≤ o) (ho2 : o < 258) (c : nfS o μ ν) (hN : isNt ν o host s.1 g s.2) (hs : nGd (μ 263) s g) (hg : (g : Int) < μ 263 4) (h0 : 0 ≤ host) (h3 : host ≤ 3) (hC : ∀ v, xIn (μ 268 v))
    (hq : ∀ ω, nfS o μ ω → isNt ω o host (nstp (μ 263) (μ 268) host g s).1 (g + 1) (nstp (μ 263) (μ 268) host g s).2 → Q ω) : tX8_receive o ν Q := by
  have e3 : ν 263 = μ 263 := c.1 263 (by omega) (by omega) (by omega) (by omega)
  have e8 : ν 268 = μ 268 := c.1 268 (by omega) (by omega) (by omega) (by omega)
  have bN := h.2.1.N
  refine s_receive (c.o ho ho2 h) c.2.2.2 ho hN (by rw [e3]; exact hs.1) (by rw [e3]; exact hg) h0 h3 (by rw [e8]; exact hC) (fun hr ω f => ?_) (fun t v hr ht hv ω f => ?_)
  · rw [e3, e8] at hr
    have e : nstp (μ 263) (μ 268) host g s = s := by unfold nstp; rw [hr]
    rw [e] at hq
    have N2 := hN.fut ho f
    refine hq _ ((c.fu f).wr ho ho2 (fun k a b => by funext j; exact wi_cell a)) ⟨fun t ht => ?_, ?_, wi_self _ _ _ _, ?_⟩
    · rw [wi_cell (by omega)]; exact N2.1 t ht
    · rw [wi_place (by omega)]; exact N2.2.1
    · rw [wi_place (by omega)]; exact N2.2.2.2
  · rw [e3, e8] at hr
    rw [e3] at ht
    have e : nstp (μ 263) (μ 268) host g s = (sT s.1 t v, s.2 + pw g) := by unfold nstp; rw [hr]
    rw [e] at hq
    have N2 := hN.fut ho f
    have bT := h.2.1.T
    refine hq _ ((c.fu f).wr ho ho2 (fun k a b => by funext j; unfold sitM; rw [wi_cell a, wi_cell a, wi_cell b])) ⟨fun j hj => ?_, ?_, ?_, ?_⟩
    · unfold sitM
      rw [wi_cell (by omega), wi_cell (by omega), Int.toNat_natCast]
      simp only [sT]
      by_cases q : t = j
      · rw [if_pos q, q, wi_self]
      · rw [if_neg q, wi_place (fun z => q z.symm)]; exact N2.1 j hj
    · unfold sitM
      rw [wi_place (by omega), wi_place (by omega), wi_cell (by omega)]; exact N2.2.1
    · unfold sitM
      rw [wi_self, N2.2.2.1]
    · unfold sitM
      rw [wi_place (by omega), wi_self, N2.2.2.2, N2.2.2.1]
      exact b_seat (by omega) (by omega) hs.2.1 hs.2.2
theorem w_code {μ : xM} {f : Nat → Nat} {Q : Int → xM → Prop} (hf : ∀ t, t < 3 → f t ≤ 24) (h : ∀ t, t < 3 → μ 265 t = f t) (hq : Q (cd (f 0) (f 1) (f 2)) μ) : tX11_code μ Q := by
  have a0 := h 0 (by omega)
  have a1 := h 1 (by omega)
  have a2 := h 2 (by omega)
  have l0 := hf 0 (by omega)
  have l1 := hf 1 (by omega)
  have l2 := hf 2 (by omega)
  intro _
  refine ⟨?_, ?_⟩
  · rw [a0, a1, a2]; unfold xIn; omega
  · rw [a0, a1, a2]; exact hq
theorem nOK_c {R f f' : Nat → Int} {n : Int} (h : ∀ t, t < 3 → f' t = f t) (hf : nOK R f n) : nOK R f' n := by
  unfold nOK at *
  rw [h 0 (by omega), h 1 (by omega), h 2 (by omega)]
  refine ⟨fun t ht => ?_, hf.2⟩
  rw [h t ht]; exact hf.1 t ht
theorem iNight.nt {μ : xM} {o c m : Nat} (h : iNight μ o c m) : ∃ s : nT, nGd (μ 263) s (μ o 1).toNat ∧ isNt μ o (μ o 0) s.1 ((μ o 1).toNat : Nat) s.2 ∧ s.2 = μ o 2 ∧ ∀ t, t < 3 → μ c (m + t) = s.1 t := by
  have ok := h.ok
  have q : ((μ o 1).toNat : Int) = μ o 1 := by have := h.2.2.1.2.1; omega
  have f3 : ∀ t, t < 3 → ((fun t => (μ (o + 1) t).toNat) t : Int) = μ (o + 1) t := fun t ht => by have := (ok.1 t ht).1; simp only; omega
  refine ⟨(fun t => (μ (o + 1) t).toNat, μ o 2), ⟨?_, ?_, ?_⟩, ⟨fun t ht => (f3 t ht).symm, rfl, q.symm, rfl⟩, rfl, fun t ht => ?_⟩
  · rw [q]; exact nOK_c f3 ok
  · exact h.2.2.2.1.1
  · rw [q]; exact h.2.2.2.1.2.1
  · rw [← (h.1 t ht).1]; exact (f3 t ht).symm
theorem b_seat' {n s : Int} (h0 : 0 ≤ n) (h1 : n ≤ 8) (h2 : 0 ≤ s) (h3 : s < pw n) : xOr (pw n - 1 - s) (xShl 1 n) = pw (n + 1) - 1 - s := by
  rw [b_seat h0 h1 (by omega) (by omega), pw_succ h0]; omega
/-- come -/
theorem c_20 {sc : Int → Int} {i : Int} {μ : xM} (hi : Inv μ) : tl_20 sc i μ Inv := by
  obtain ⟨p, ep⟩ : ∃ w, w = sc (i + 1) := ⟨_, rfl⟩
  unfold tl_20
  rw [← ep]
  have hK : ∀ a, a ≠ 4 → Inv (tr μ a) := fun a => Inv_tr hi
  rcases hi.os with h | h
  · have h14 := h.1
    have hw := h.w
    have hR := h.2.1
    have bN := hR.N
    have hN := h.2.2.2.1
    have e4 := h.2.2.1.1 4 (by omega)
    have n2 := hN.1.2.2.1
    have n21 : μ 249 1 = μ 265 4 := n2.1
    by_cases hp : 1 ≤ p ∧ p ≤ 8
    · by_cases hc : μ 249 1 < μ 263 4
      · obtain ⟨s, sg, sn, ss, st⟩ := hN.1.nt
        obtain ⟨g, eg⟩ : ∃ g, g = (μ 249 1).toNat := ⟨_, rfl⟩
        obtain ⟨host, eh⟩ : ∃ x, x = μ 249 0 := ⟨_, rfl⟩
        have hh : 0 ≤ host ∧ host ≤ 3 := by rw [eh]; exact hN.1.2.1.2
        have h265 : μ 265 3 = host := by rw [eh]; exact hN.1.2.1.1.symm
        rw [← eg] at sg sn
        rw [← eh] at sn
        have g1 : μ 249 1 = g := by omega
        obtain ⟨m, em⟩ : ∃ m : Nat, (m : Int) = min p (μ 263 4 - g) := ⟨(min p (μ 263 4 - g)).toNat, by omega⟩
        intro rr _
        have hC : ∀ v, xIn (μ 268 v) := fun v => rr.i (by omega)
        have gd : ∀ k : Nat, ((g + k : Nat) : Int) ≤ μ 263 4 → nGd (μ 263) (nit (μ 263) (μ 268) host g s k) (g + k) := nit_ok hR hC sg
        refine k_open h (fun _ _ => ⟨fun _ => ⟨fun z => by omega, fun _ => ⟨fun _ => ⟨fun _ => ?_, fun z => absurd (show μ 249 1 < μ 39 4 by omega) z⟩, fun z => by omega⟩⟩, fun z => absurd z (by decide)⟩)
        have cfin : ∀ ν, nfS 249 μ ν → isNt ν 249 host (nit (μ 263) (μ 268) host g s m).1 (g + m : Nat) (nit (μ 263) (μ 268) host g s m).2 → xIn (ν 249 1 - μ 249 1) ∧ tX10_granted (ν 249 1 - μ 249 1) ν (fun r24 μ22 => xIn r24 → xRan μ22 → xIn r24 → xRan μ22 → tX11_come p μ22 (fun r' ω => xIn r' → xRan ω → r24 = r' ∧ Inv ω)) := by
          intro ν c1 cN
          have d1 : ν 249 1 - μ 249 1 = m := by rw [cN.2.2.1, g1]; omega
          rw [d1]
          refine ⟨⟨by omega, by omega⟩, s_granted (fun _ _ _ _ => ?_)⟩
          obtain ⟨M, eM⟩ : ∃ M, M = wi (wi (wi ν 0 18 0) 260 0 0) 260 11 0 := ⟨_, rfl⟩
          have Mk : ∀ k, k ≠ 0 → k ≠ 260 → M k = ν k := fun k a b => by rw [eM]; funext j; rw [wi_cell b, wi_cell b, wi_cell a]
          have M3 : M 263 = μ 263 := (Mk 263 (by omega) (by omega)).trans (c1.1 263 (by omega) (by omega) (by omega) (by omega))
          have M5 : M 265 = μ 265 := (Mk 265 (by omega) (by omega)).trans (c1.1 265 (by omega) (by omega) (by omega) (by omega))
          have M8 : M 268 = μ 268 := (Mk 268 (by omega) (by omega)).trans (c1.1 268 (by omega) (by omega) (by omega) (by omega))
          have n260 : ν 260 = μ 260 := c1.1 260 (by omega) (by omega) (by omega) (by omega)
          have M14 : M 260 14 = 1 := by rw [eM]; show ν 260 14 = 1; rw [n260]; exact h14
          have Mo : iOpW M := iOpW_c (show M 260 14 = ν 260 14 by rw [M14, n260, h14]) (fun k hk => Mk k (by omega) (by omega)) (c1.o (by omega) (by omega) hw)
          intro _ _
          refine s_good ?_
          rw [← eM]
          intro _
          refine ⟨fun _ => s_within (fun _ _ _ _ => ⟨fun _ => ⟨fun _ => r_forget ?_, fun z => absurd (show μ 265 4 = μ 263 4 by rw [← M5, ← M3]; exact z) (by omega)⟩, fun z => absurd z (by decide)⟩) (fun z => absurd hp z), fun z => absurd (M14.symm.trans z) (by decide)⟩
          obtain ⟨F, eF⟩ : ∃ F, F = fillM M 276 140625 (-1) := ⟨_, rfl⟩
          have Fk : ∀ k, k ≠ 276 → F k = M k := fun k hk => by rw [eF]; funext j; simp [fillM, hk]
          have Fm : iMem F := by
            have bn := bN
            intro a b c ha hb hc2 _ g2 hg2
            rw [Fk 263 (by omega), M3] at hg2
            left
            rw [eF]
            simp only [fillM]
            rw [if_pos ⟨trivial, by unfold cdN; omega⟩]
          rw [← eF]
          intro _
          refine up1 (n := (m : Int)) (fun k ξ => (∀ j, j ≠ 276 → j ≠ 265 → ξ j = M j) ∧ iMem ξ ∧ (∀ t, t < 3 → ξ 265 t = (nit (μ 263) (μ 268) host g s k.toNat).1 t) ∧ ξ 265 3 = host ∧ ξ 265 4 = (g + k.toNat : Nat) ∧ ξ 265 5 = pw ((g + k.toNat : Nat) : Int) - 1 - (nit (μ 263) (μ 268) host g s k.toNat).2) (by omega) ⟨fun j a _ => Fk j a, Fm, fun t ht => ?_, ?_, ?_, ?_⟩ ?_
          · rw [Fk 265 (by omega), M5]
            have := st t ht
            rw [Nat.zero_add] at this
            exact this
          · rw [Fk 265 (by omega), M5]; exact h265
          · rw [Fk 265 (by omega), M5, ← n21, g1]; rfl
          · rw [Fk 265 (by omega), M5]
            have q := hN.1.2.2.2.1.2.2
            rw [Nat.zero_add, g1, ← ss] at q
            exact q
          · rintro k ξ K k0 k1 ⟨x1, x2, x3, x4, x5, x6⟩ _ hKK
            obtain ⟨kn, rfl⟩ : ∃ kn : Nat, k = kn := ⟨k.toNat, by omega⟩
            rw [Int.toNat_natCast] at x3 x5 x6
            have X3 : ξ 263 = μ 263 := (x1 263 (by omega) (by omega)).trans M3
            have X8 : ξ 268 = μ 268 := (x1 268 (by omega) (by omega)).trans M8
            have Xo : iOpW ξ := iOpW_c (by rw [x1 260 (by omega) (by omega)]) (fun k hk => x1 k (by omega) (by omega)) Mo
            have gk := gd kn (by omega)
            have done : (kn : Int) = m → ((m : Int) = kn ∧ Inv ξ) := by
              intro ekm
              have ek : kn = m := by omega
              subst ek
              refine ⟨rfl, ?_⟩
              have fb := c1.bk (by omega) (by omega)
              have ib := Inv_fut hi h fb
              have ob := iOpen_a fb.a h
              have same : ∀ k, k ≠ 276 → k ≠ 265 → k ≠ 0 → k ≠ 260 → k ≠ 249 → k ≠ 250 → ξ k = bak 249 μ ν k := fun k a b c d e f => by rw [bak_n e f, x1 k a b, Mk k c d]
              have b249 : bak 249 μ ν 249 = μ 249 := rfl
              have q0 : ξ 0 = wi ν 0 18 0 0 := by rw [x1 0 (by omega) (by omega), eM]; funext j; rw [wi_cell (by omega), wi_cell (by omega)]
              have v0 : ν 0 = μ 0 := c1.1 0 (by omega) (by omega) (by omega) (by omega)
              have q260 : ∀ j, j ≠ 0 → j ≠ 11 → ξ 260 j = μ 260 j := fun j a b => by rw [x1 260 (by omega) (by omega), eM, wi_place b, wi_place a, wi_cell (by omega), n260]
              have q0j : ∀ j, j ≠ 18 → ξ 0 j = μ 0 j := fun j a => by rw [q0, wi_place a, v0]
              have z249 : ξ 249 = ν 249 := by rw [x1 249 (by omega) (by omega), Mk 249 (by omega) (by omega)]
              have z250 : ξ 250 = ν 250 := by rw [x1 250 (by omega) (by omega), Mk 250 (by omega) (by omega)]
              have p8 : pw ((g + kn : Nat) : Int) ≤ 256 := (pw_le (by omega) (by omega)).2
              refine Inv_n (a := 0) ib ob ?_ ?_ ?_ ?_ ?_ (by decide) (iBase_c (fun k hk => same k (by omega) (by omega) (by omega) (by omega) (by omega) (by omega)) ?_ ?_ ib.2.2.1) (iCache_c (fun k hk => same k (by omega) (by omega) (by omega) (by omega) (by omega) (by omega)) (ib.cache ob)) (nights_keep (iOpen_a fb.a h).2.2.2.1 (iNight_of ?_ ?_ ?_ ?_ ?_ ?_ ?_ ?_) ?_ ?_ (fun k a b => same k (by omega) (by omega) (by omega) (by omega) (by omega) (by omega)) (same 266 (by omega) (by omega) (by omega) (by omega) (by omega) (by omega)) (same 263 (by omega) (by omega) (by omega) (by omega) (by omega) (by omega)))
              · intro k j hn
                by_cases y1 : k = 276
                · subst y1; exact absurd hn (by simp [nscr, ascr, rscr])
                by_cases y2 : k = 265
                · subst y2; exact absurd hn (by simp [nscr])
                by_cases y3 : k = 249
                · subst y3; exact absurd hn (by simp [nscr])
                by_cases y4 : k = 250
                · subst y4; exact absurd hn (by simp [nscr])
                by_cases y5 : k = 0
                · subst y5
                  by_cases y : j = 18
                  · subst y; exact absurd hn (by decide)
                  · rw [q0j j y, bak_n (by omega) (by omega), v0]
                by_cases y6 : k = 260
                · subst y6
                  by_cases y : j = 0
                  · subst y; exact absurd hn (by decide)
                  by_cases y' : j = 11
                  · subst y'; exact absurd hn (by decide)
                  rw [q260 j y y', bak_n (by omega) (by omega), n260]
                rw [same k y1 y2 y5 y6 y3 y4]
              · rw [same 35 (by omega) (by omega) (by omega) (by omega) (by omega) (by omega)]
              · rw [q260 9 (by omega) (by omega), bak_n (by omega) (by omega), n260]
              · rw [q0, wi_self]
              · rw [x1 260 (by omega) (by omega), eM, wi_self]
              · rw [same 236 (by omega) (by omega) (by omega) (by omega) (by omega) (by omega)]
              · rw [same 236 (by omega) (by omega) (by omega) (by omega) (by omega) (by omega)]
              · intro t ht
                show ξ 250 t = ξ 265 (0 + t)
                rw [z250, Nat.zero_add, x3 t ht]; exact cN.1 t ht
              · show nOK (ξ 263) (ξ 250) (ξ 249 1)
                rw [z250, z249, X3, cN.2.2.1]
                exact nOK_c (f := fun j => ((nit (μ 263) (μ 268) host g s kn).1 j : Int)) (fun t ht => cN.1 t ht) gk.1
              · rw [z249, cN.2.1]; exact x4.symm
              · rw [z249, cN.2.1]; exact hh
              · rw [z249, cN.2.2.1]; exact x5.symm
              · rw [z249, cN.2.2.1, X3]; omega
              · rw [z249, cN.2.2.1, cN.2.2.2]; exact ⟨gk.2.1, gk.2.2⟩
              · rw [z249, cN.2.2.1, cN.2.2.2]; exact x6
              · rw [q0j 17 (by omega), bak_n (by omega) (by omega), v0]
              · rw [q260 19 (by omega) (by omega), bak_n (by omega) (by omega), n260]
            refine ⟨⟨by omega, by omega⟩, fun z _ _ => done (by omega), fun z => ⟨fun z2 _ _ => done ?_, fun z2 => ?_⟩⟩
            · rw [X3, x5] at z2; omega
            · rw [X3, x5] at z2
              have lt : (kn : Int) < m := by omega
              have g8 : ((g + kn : Nat) : Int) ≤ 8 := by omega
              refine w_code (fun t ht => (gk.1.le t ht).1) x3 (fun _ _ => ?_)
              rw [x4, x5]
              refine r_seated Xo x2 (by rw [X3]; exact gk.1) (by rw [X3]; omega) hh.1 hh.2 (by rw [X8]; exact hC) (fun hr ω f _ _ => ⟨fun z => absurd z (by decide), fun _ => wl fun _ => ⟨?_, wl fun _ => hKK _ lt ?_⟩⟩) (fun t v hr ω f _ _ => ?_)
              · rw [wi_place (by omega), f.1 265 (by omega), x5]; exact ⟨by omega, by omega⟩
              · rw [X3, X8] at hr
                have e : nit (μ 263) (μ 268) host g s (kn + 1) = nit (μ 263) (μ 268) host g s kn := by show nstp _ _ _ _ _ = _; unfold nstp; rw [hr]
                have f5 := f.1 265 (by omega)
                rw [show ((kn : Int) + 1).toNat = kn + 1 by omega, e]
                refine ⟨fun j a b => ?_, ?_, fun t ht => ?_, ?_, ?_, ?_⟩
                · rw [← x1 j a b, ← f.1 j a]; funext y; rw [wi_cell b, wi_cell b]
                · have f2 := f.2
                  unfold iMem at *
                  exact f2
                · rw [wi_place (by omega), wi_place (by omega), f5]; exact x3 t ht
                · rw [wi_place (by omega), wi_place (by omega), f5]; exact x4
                · rw [wi_self, wi_place (by omega), f5, x5]; omega
                · rw [wi_place (by omega), wi_self, f5, x5, x6, b_seat' (by omega) g8 gk.2.1 gk.2.2]
                  rw [show ((g + (kn + 1) : Nat) : Int) = ((g + kn : Nat) : Int) + 1 by omega]
              · rw [X3, X8] at hr
                obtain ⟨r1, r2, r3⟩ := resF_ok hR hC gk.1 hr
                have e : nit (μ 263) (μ 268) host g s (kn + 1) = (sT (nit (μ 263) (μ 268) host g s kn).1 t v, (nit (μ 263) (μ 268) host g s kn).2 + pw ((g + kn : Nat) : Int)) := by show nstp _ _ _ _ _ = _; unfold nstp; rw [hr]
                have f5 := f.1 265 (by omega)
                have bT := hR.T
                have l0 := (gk.1.le 0 (by omega)).1
                have l1 := (gk.1.le 1 (by omega)).1
                have l2 := (gk.1.le 2 (by omega)).1
                have wr := wt_rng (a := ((nit (μ 263) (μ 268) host g s kn).1 0 : Int)) (b := (nit (μ 263) (μ 268) host g s kn).1 1) (c := (nit (μ 263) (μ 268) host g s kn).1 2) (t := t) (w := v) ⟨by omega, by omega⟩ ⟨by omega, by omega⟩ ⟨by omega, by omega⟩ ⟨by omega, by omega⟩
                refine ⟨fun _ => r_laysTables ?_ ?_ ?_ (fun _ => ⟨?_, wl fun _ => hKK _ lt ?_⟩), fun z => absurd wr.1 z⟩
                · split
                  · exact ⟨by omega, by omega⟩
                  · exact ⟨by omega, by omega⟩
                · split
                  · exact ⟨by omega, by omega⟩
                  · exact ⟨by omega, by omega⟩
                · split
                  · exact ⟨by omega, by omega⟩
                  · exact ⟨by omega, by omega⟩
                · show xIn (ω 265 4 + 1)
                  rw [f5, x5]; exact ⟨by omega, by omega⟩
                · have pwb := pw_succ (n := ((g + kn : Nat) : Int)) (by omega)
                  rw [show ((kn : Int) + 1).toNat = kn + 1 by omega, e]
                  refine ⟨fun j a b => ?_, ?_, fun j hj => ?_, ?_, ?_, ?_⟩
                  · rw [← x1 j a b, ← f.1 j a]; funext y; rw [wi_cell b]; unfold layM; rw [if_neg (by omega)]
                  · have f2 := f.2
                    unfold iMem at *
                    exact f2
                  · rw [wi_place (by omega)]
                    unfold layM
                    rw [if_pos ⟨rfl, hj⟩]
                    have k3j := x3 j hj
                    rcases (show j = 0 ∨ j = 1 ∨ j = 2 by omega) with rfl | rfl | rfl <;> rcases (show t = 0 ∨ t = 1 ∨ t = 2 by omega) with rfl | rfl | rfl <;> rfl
                  · rw [wi_place (by omega)]
                    show ω 265 3 = _
                    rw [f5]; exact x4
                  · rw [wi_self]
                    show ω 265 4 + 1 = _
                    rw [f5, x5]; omega
                  · rw [wi_place (by omega)]
                    show ω 265 5 = _
                    rw [f5, x6, show ((g + (kn + 1) : Nat) : Int) = ((g + kn : Nat) : Int) + 1 by omega]
                    simp only
                    omega
        refine up1 (n := (m : Int)) (fun k ν => nfS 249 μ ν ∧ isNt ν 249 host (nit (μ 263) (μ 268) host g s k.toNat).1 (g + k.toNat : Nat) (nit (μ 263) (μ 268) host g s k.toNat).2) (by omega) ⟨⟨fun _ _ _ _ _ => rfl, fun _ _ => rfl, fun z => ⟨rfl, z⟩, (hi.cache h).2.2.2.2.1⟩, sn⟩ ?_
        rintro k ν K k0 k1 ⟨c1, cN⟩ _ hKK
        obtain ⟨kn, rfl⟩ : ∃ kn : Nat, k = kn := ⟨k.toNat, by omega⟩
        rw [Int.toNat_natCast] at cN
        have m4 : ν 39 4 = μ 263 4 := by rw [c1.1 39 (by omega) (by omega) (by omega) (by omega), e4]
        have c4 : ν 249 1 = ((g + kn : Nat) : Int) := cN.2.2.1
        have dn : (kn : Int) = m → xIn (ν 249 1 - μ 249 1) ∧ tX10_granted (ν 249 1 - μ 249 1) ν (fun r24 μ22 => xIn r24 → xRan μ22 → xIn r24 → xRan μ22 → tX11_come p μ22 (fun r' ω => xIn r' → xRan ω → r24 = r' ∧ Inv ω)) := by
          intro ek
          have ek : kn = m := by omega
          subst ek
          exact cfin ν c1 cN
        refine ⟨⟨by omega, by omega⟩, fun z => dn (by omega), fun z => ⟨fun z2 => dn ?_, fun z2 => ?_⟩⟩
        · rw [m4, c4] at z2; omega
        · rw [m4, c4] at z2
          have gk := gd kn (by omega)
          refine s_recN hw (by omega) (by omega) c1 cN gk (by omega) hh.1 hh.2 hC (fun ω d1 d2 _ => hKK ω (by omega) ⟨d1, ?_⟩)
          rw [show ((kn : Int) + 1).toNat = kn + 1 by omega]
          exact d2
      · unfold tX10_come
        repeat' (first
          | with_reducible refine k_open h ?_
          | with_reducible refine s_refused ?_
          | with_reducible refine s_good ?_
          | with_reducible refine s_within (fun _ _ => ?_) (fun _ => ?_)
          | with_reducible refine s_no ?_
          | (intro zq; exact absurd zq (by decide))
          | (intro zq; exact absurd (show μ 249 1 < μ 39 4 from zq) (by omega))
          | (intro zq; exact absurd (show μ 265 4 = μ 263 4 by omega) zq)
          | (intro zq; exact absurd (h14.symm.trans zq) (by decide))
          | intro _
          | with_reducible refine And.intro ?_ ?_)
        all_goals first | rfl | contradiction | (exact K_no (hK _ (by decide))) | (exact hK _ (by decide)) | omega | skip
    · have ref : tX11_come p (wi μ 0 18 2) (fun r' ω => xIn r' → xRan ω → -1 = r' ∧ Inv ω) := by
        intro _ _
        exact s_good (fun _ => ⟨fun _ => s_within (fun y1 y2 => absurd ⟨y1, y2⟩ hp) (fun _ _ _ => ⟨fun z => absurd z (by decide), fun _ => s_no (fun _ _ _ _ => ⟨rfl, K_no (hK 2 (by decide))⟩)⟩), fun z => absurd (h14.symm.trans z) (by decide)⟩)
      intro _ _
      exact k_open h (fun _ _ => ⟨fun _ => ⟨fun _ => s_refused (fun _ _ _ _ => ref), fun y => ⟨fun y2 => absurd ⟨by omega, y2⟩ hp, fun _ => s_refused (fun _ _ _ _ => ref)⟩⟩, fun z => absurd z (by decide)⟩)
  · have h14 := h.1
    unfold tX10_come
    repeat' (first
      | with_reducible refine k_shut h ?_
      | with_reducible refine s_refused ?_
      | with_reducible refine s_good ?_
      | with_reducible refine s_no ?_
      | (intro zq; exact absurd zq (by decide))
      | (intro zq; exact absurd h14 zq)
      | intro _
      | with_reducible refine And.intro ?_ ?_)
    all_goals first | rfl | contradiction | (exact K_no (hK _ (by decide))) | (exact hK _ (by decide)) | omega | (unfold goodI wordF at *; omega) | skip
