/-! the reference's growth -/
theorem r_without {μ : xM} {R : Nat → Int} {v p w : Int} {Q : Int → xM → Prop} (e : μ 263 = R) (hR : okR R) (hw : wordF R w) (hv : wordF R v) (hl : R (7 + v.toNat) = R (7 + w.toNat) + 1) (p0 : 0 ≤ p) (h1 : woF R v.toNat p.toNat w.toNat → Q 1 μ) (h0 : ¬ woF R v.toNat p.toNat w.toNat → Q 0 μ) : tX11_isWithout v p w μ Q := by
  have b := hR.W
  have w0 := hw.1; have w1 := hw.2
  have v0 := hv.1; have v1 := hv.2
  have bl := hR.len (w := w.toNat) (by omega)
  intro _ _ _ _
  refine rd2b (n := R (7 + w.toNat)) (fun i is => (is = 0 ∨ is = 1) ∧ (is = 1 ↔ ∀ k : Nat, (k : Int) < i → R (31 + 6 * v.toNat + (if k < p.toNat then k else k + 1)) = R (31 + 6 * w.toNat + k))) (by omega) ⟨Or.inr rfl, fun _ k z => by omega, fun _ => rfl⟩ ?_
  intro i is K i0 i1 hP hK
  rw [e, show (7 + w).toNat = 7 + w.toNat by omega]
  have fin : ∀ k, k = is → i = R (7 + w.toNat) → Q k μ := by
    intro k hk hi
    subst hk
    rcases hP.1 with q | q
    · rw [q]; refine h0 (fun z => ?_)
      have := hP.2.2 (fun k hk => z k (by omega)); omega
    · rw [q]; exact h1 (fun k hk => hP.2.1 q k (by omega))
  refine ⟨⟨by omega, by omega⟩, ⟨by omega, by omega⟩, fun c => ⟨hP.1, fin _ rfl (by omega)⟩, fun c => ⟨xIz hP.1, fun d => hK _ (by omega) ⟨Or.inl rfl, fun z => absurd z (by decide), fun z => ?_⟩, fun d => ?_⟩⟩
  · have := hP.2.2 (fun k hk => z k (by omega)); omega
  · have is1 : is = 1 := hP.1.resolve_left d
    have old := hP.2.1 is1
    have b42 : ∀ s, s = i ∨ s = i + 1 → s < R (7 + v.toNat) → (s.toNat = if i.toNat < p.toNat then i.toNat else i.toNat + 1) → tX11_isWithout_b42 v p w i v s μ Q K := by
      intro s hs hs2 hs3 _
      refine ⟨⟨by omega, by omega⟩, ⟨by omega, by omega⟩, r_letterAt e hR hv (by omega) hs2 (fun _ _ => ⟨⟨by omega, by omega⟩, r_letterAt e hR hw i0 (by omega) (fun _ _ => ⟨fun q => hK _ (by omega) ⟨Or.inl rfl, fun z => absurd z (by decide), fun z => ?_⟩, fun q => hK _ (by omega) ⟨Or.inr rfl, fun _ k hk => ?_, fun _ => rfl⟩⟩)⟩)⟩
      · have := z i.toNat (by omega)
        rw [← hs3] at this; omega
      · by_cases ek : k = i.toNat
        · rw [ek, ← hs3]; omega
        · exact old k (by omega)
    exact ⟨fun q => b42 _ (Or.inr rfl) (by omega) (by rw [if_neg (by omega)]; omega), fun q => b42 _ (Or.inl rfl) (by omega) (by rw [if_pos (by omega)])⟩
theorem r_growth {μ : xM} {R : Nat → Int} {w v : Int} {Q : Int → xM → Prop} (e : μ 263 = R) (hR : okR R) (w0 : 0 ≤ w) (w1 : w ≤ 24) (v0 : 0 ≤ v) (hq : Q (byF R w.toNat v.toNat) μ) : tX11_growth w v μ Q := by
  subst e
  have e : μ 263 = μ 263 := rfl
  have b := hR.W
  intro _ _ _
  refine ⟨fun c => ?_, fun c => r_good e ⟨v0, by omega⟩ b.2 (fun gv _ _ => ⟨fun _ => ⟨fun d => ⟨fun f => ?_, fun f => r_good e ⟨w0, by omega⟩ b.2 (fun gw _ _ => ⟨fun z => absurd z (by decide), fun _ => ?_⟩) (fun gw _ _ => ⟨fun _ => ?_, fun z => absurd z (by decide)⟩)⟩, fun d => ?_⟩, fun z => absurd z (by decide)⟩) (fun gv _ _ => ⟨fun z => absurd z (by decide), fun _ => ?_⟩)⟩
  · rw [byF_out (by omega)] at hq; exact hq
  · rw [byF_no (fun z => ?_)] at hq
    · exact hq
    · rcases z.1 with q | q
      · omega
      · have := q.1; omega
  · have hv := gv.1
    have hw := gw.1
    have gv2 := (goodI_nat v0).1 gv
    have gw2 := (goodI_nat w0).1 gw
    have bl := hR.len gw2.1
    have bv := hR.len gv2.1
    rw [show (7 + v).toNat = 7 + v.toNat by omega, show (7 + w).toNat = 7 + w.toNat by omega]
    rw [byF_yes (Or.inr gw2) gv2, wvF, if_neg (by omega)] at hq
    refine ⟨⟨by omega, by omega⟩, ⟨by omega, by omega⟩, ⟨by omega, by omega⟩, fun hl => ?_, fun hl => ?_⟩
    · rw [if_pos hl] at hq
      refine rd1 (n := (μ 263) (7 + v.toNat)) (fun p => scanF (fun p => mayF (μ 263) p ((μ 263) (7 + v.toNat)) ∧ woF (μ 263) v.toNat p w.toNat) (fun p => (μ 263) (31 + 6 * v.toNat + p) - 97) ((μ 263) (7 + v.toNat)).toNat 0 = scanF (fun p => mayF (μ 263) p ((μ 263) (7 + v.toNat)) ∧ woF (μ 263) v.toNat p w.toNat) (fun p => (μ 263) (31 + 6 * v.toNat + p) - 97) ((μ 263) (7 + v.toNat) - p).toNat p.toNat) (by omega) (by simp) ?_
      intro p K p0 p1 hP hK
      rw [hP] at hq
      have no : p < (μ 263) (7 + v.toNat) → ¬ (mayF (μ 263) p.toNat ((μ 263) (7 + v.toNat)) ∧ woF (μ 263) v.toNat p.toNat w.toNat) → K (p + 1) μ := by
        intro le q
        refine hK (by omega) ?_
        rw [hP, show ((μ 263) (7 + v.toNat) - p).toNat = ((μ 263) (7 + v.toNat) - (p + 1)).toNat + 1 by omega]
        rw [scanF_no (P := fun p => mayF (μ 263) p ((μ 263) (7 + v.toNat)) ∧ woF (μ 263) v.toNat p w.toNat) q, show (p + 1).toNat = p.toNat + 1 by omega]
      have yes : p < (μ 263) (7 + v.toNat) → mayF (μ 263) p.toNat ((μ 263) (7 + v.toNat)) → tX11_growth_b144 w v ((μ 263) (7 + v.toNat)) p μ Q K := by
        intro le q _ _
        refine ⟨⟨by decide, by decide⟩, fun z => absurd z (by decide), fun _ => ⟨⟨by omega, by omega⟩, r_without e hR hw hv hl p0 (fun y _ _ => ⟨fun z => absurd z (by decide), fun _ => r_letterAt e hR hv p0 le (fun _ _ => ?_)⟩) (fun y _ _ => ⟨fun _ => no le (fun z => y z.2), fun z => absurd z (by decide)⟩)⟩⟩
        rw [show ((μ 263) (7 + v.toNat) - p).toNat = ((μ 263) (7 + v.toNat) - (p + 1)).toNat + 1 by omega] at hq
        rw [scanF_yes (P := fun p => mayF (μ 263) p ((μ 263) (7 + v.toNat)) ∧ woF (μ 263) v.toNat p w.toNat) ⟨q, y⟩] at hq
        exact hq
      have nay : p < (μ 263) (7 + v.toNat) → ¬ mayF (μ 263) p.toNat ((μ 263) (7 + v.toNat)) → tX11_growth_b148 w v ((μ 263) (7 + v.toNat)) p μ Q K := by
        intro le q _ _
        exact ⟨⟨by decide, by decide⟩, fun _ => no le (fun z => q z.1), fun z => absurd rfl z⟩
      refine ⟨⟨by omega, by omega⟩, fun c => ?_, fun c => ⟨fun d => yes (by omega) (Or.inl d), fun d => ⟨⟨by omega, by omega⟩, fun f => yes (by omega) (Or.inr (Or.inl (by omega))), fun f => ⟨fun g => nay (by omega) ?_, fun g => ⟨fun i => nay (by omega) ?_, fun i => yes (by omega) (Or.inr (Or.inr ⟨g, by omega⟩))⟩⟩⟩⟩⟩
      · rw [show ((μ 263) (7 + v.toNat) - p).toNat = 0 by omega] at hq
        exact hq
      · rintro (z | z | ⟨z, _⟩)
        · exact d z
        · omega
        · exact g z
      · rintro (z | z | ⟨_, z⟩)
        · exact d z
        · omega
        · omega
    · rw [if_neg hl] at hq; exact hq
  · rw [byF_no (fun z => ?_)] at hq
    · exact hq
    · rcases z.1 with q | q
      · omega
      · exact gw ((goodI_nat w0).2 q)
  · have gv2 := (goodI_nat v0).1 gv
    have bv := hR.len gv2.1
    rw [show (7 + v).toNat = 7 + v.toNat by omega]
    rw [byF_yes (Or.inl (by omega)) gv2, wvF, if_pos (by omega)] at hq
    refine ⟨⟨by omega, by omega⟩, fun f => ?_, fun f => r_letterAt e hR gv.1 (by omega) (by omega) (fun _ _ => ?_)⟩
    · rw [if_neg f] at hq; exact hq
    · rw [if_pos f] at hq; exact hq
  · rw [byF_no (fun z => gv ((goodI_nat v0).2 z.2))] at hq; exact hq
def rGrow (μ : xM) (R : Nat → Int) : Prop := (∀ w v : Nat, w < 25 → v < 24 → μ 267 (24 * w + v) = byF R w v) ∧ isChain R (μ 268) ∧ isNim R (μ 269) ∧ isRise R (μ 270)
theorem upL_out {R : Nat → Int} {w : Nat} (hR : 0 ≤ R 3) : ∀ n : Nat, (R 3).toNat ≤ n → upL R w n = upL R w (R 3).toNat := by
  intro n hn
  induction n with
  | zero => rw [show (R 3).toNat = 0 by omega]
  | succ n ih =>
    by_cases e : (R 3).toNat = n + 1
    · rw [e]
    · rw [upL_n (by rw [byF_out (by omega)]; omega), ih (by omega)]
theorem dn_out {R : Nat → Int} (hR : okR R) {v : Nat} (f : Nat → Int) (x : Int) : mnL f x (downsF R v) = mnL f x (dnL R v (R 3).toNat) := by
  have b := hR.W
  have : ∀ n : Nat, (R 3).toNat ≤ n → n ≤ 24 → dnL R v n = dnL R v (R 3).toNat := by
    intro n hn
    induction n with
    | zero => intro _; rw [show (R 3).toNat = 0 by omega]
    | succ n ih =>
      intro h24
      by_cases e : (R 3).toNat = n + 1
      · rw [e]
      · rw [dnL_n, ih (by omega) (by omega)]
        rw [byF_no (fun z => ?_)]
        · omega
        · rcases z.1 with q | q
          · omega
          · have := q.1; omega
  have d : downsF R v = dnL R v (24 + 1) := rfl
  rw [d]
  by_cases q : 0 ≤ byF R 24 v
  · rw [dnL_y q, mnL_snoc, if_pos rfl, this 24 (by omega) (by omega)]
  · rw [dnL_n q, this 24 (by omega) (by omega)]
def in267 (k : Nat) : Prop := 267 ≤ k ∧ k < 271
/-- one word's chain and grundy -/
theorem r_look {μ : xM} {R : Nat → Int} {n w : Int} {Q : xM → Prop} {J48 J54 : Int → xM → Prop} (e : μ 263 = R) (hR : okR R) (hb : ∀ w v : Nat, w < 25 → v < 24 → μ 267 (24 * w + v) = byF R w v) (w0 : 0 ≤ w) (w1 : w ≤ 24) (hd : domF R w.toNat) (hn : lnF R w.toNat = n)
    (hI : ∀ v ∈ upsF R w.toNat, 0 ≤ μ 268 v ∧ μ 268 v + 1 ≤ 6 - n ∧ 0 ≤ μ 269 v ∧ μ 269 v < 6 - n)
    (hq : ∀ ν, (∀ k, k ≠ 268 → k ≠ 269 → ν k = μ k) → (∀ u, u ≠ w.toNat → ν 268 u = μ 268 u ∧ ν 269 u = μ 269 u) → ν 269 w.toNat = mexF (setL (μ 269) (upsF R w.toNat)) → (w ≠ 24 → ν 268 w.toNat = mxL (fun v => μ 268 v + 1) (upsF R w.toNat)) → J54 (w + 1) ν) : tX11_layGrows_b102 n w μ Q J48 J54 := by
  have b := hR.W
  have r := lnF_rng hR hd
  have uo : upL R w.toNat (R 3).toNat = upsF R w.toNat := (upL_out (by omega) 24 (by omega)).symm
  have mem : ∀ i : Nat, i ≤ (R 3).toNat → ∀ v ∈ upL R w.toNat i, v ∈ upsF R w.toNat := by
    intro i hi v hv
    simp only [upL, List.mem_filter, List.mem_range, decide_eq_true_eq] at hv
    exact upsF_mem.2 ⟨by omega, hv.2⟩
  intro _
  refine rd3c (n := R 3) (fun i a c => a = mxL (fun v => μ 268 v + 1) (upL R w.toNat i.toNat) ∧ c = setL (μ 269) (upL R w.toNat i.toNat)) (by omega) ⟨rfl, rfl⟩ ?_
  rintro i a c K i0 i1 ⟨rfl, rfl⟩ hK
  have am := mxL_le (f := fun v => μ 268 v + 1) (m := 6 - n) (by omega) (upL R w.toNat i.toNat) (fun v hv => (hI v (mem _ (by omega) v hv)).2.1)
  rw [e]
  refine ⟨⟨by omega, by omega⟩, fun c => ?_, fun c => ?_⟩
  · rw [show i.toNat = (R 3).toNat by omega, uo]
    rw [show i.toNat = (R 3).toNat by omega, uo] at am
    have sl := setL_lt (c := μ 269) (m := 6 - n) (by omega) (by omega) (upsF R w.toNat) (fun v hv => ⟨(hI v hv).2.2.1, (hI v hv).2.2.2⟩)
    have ml := mexF_le (m := 6 - n) (by omega) (by omega) sl.1 sl.2
    refine rd1 (n := mexF (setL (μ 269) (upsF R w.toNat))) (fun k => mexF (setL (μ 269) (upsF R w.toNat)) = mexN (setL (μ 269) (upsF R w.toNat)) (31 - k.toNat) k.toNat) (by omega) rfl ?_
    intro k K2 k0 k1 hP hK2
    refine ⟨fun d => ?_, fun d => hK2 ?_ ?_⟩
    · have km : k = mexF (setL (μ 269) (upsF R w.toNat)) := by
        rw [hP, show 31 - k.toNat = (31 - (k.toNat + 1)) + 1 by omega, mexN, Int.toNat_of_nonneg k0, if_neg d, Int.toNat_of_nonneg k0]
      rw [← km] at hq
      refine ⟨⟨w0, by omega⟩, ⟨by omega, by omega⟩, wl fun _ => ⟨⟨by omega, by omega⟩, fun f => hq _ (fun j q q2 => ?_) (fun u hu => ?_) (wi_self _ _ _ _) (fun z => absurd f z), fun f => ⟨⟨w0, by omega⟩, ⟨by omega, by omega⟩, wl fun _ => hq _ (fun j q q2 => ?_) (fun u hu => ?_) ?_ (fun z => wi_self _ _ _ _)⟩⟩⟩
      · funext x; exact wi_cell q2
      · exact ⟨wi_cell (by omega), wi_place hu⟩
      · funext x; rw [wi_cell q, wi_cell q2]
      · exact ⟨by rw [wi_place hu, wi_cell (by omega)], by rw [wi_cell (by omega), wi_place hu]⟩
      · rw [wi_cell (by omega), wi_self]
    · rcases Int.lt_or_le k (mexF (setL (μ 269) (upsF R w.toNat))) with q | q
      · exact q
      · exfalso
        have km : k = mexF (setL (μ 269) (upsF R w.toNat)) := by omega
        have e31 : mexF (setL (μ 269) (upsF R w.toNat)) = mexN (setL (μ 269) (upsF R w.toNat)) (31 - (k.toNat + 1)) (k.toNat + 1) := by
          rw [hP, show 31 - k.toNat = (31 - (k.toNat + 1)) + 1 by omega, mexN, Int.toNat_of_nonneg k0, if_pos d]
        have nb := no_bit (m := 6 - n) (by omega) (by omega) sl.1 sl.2
        have kn : k ≠ 6 - n := by rintro rfl; exact nb d
        have q2 := mexN_le (s := setL (μ 269) (upsF R w.toNat)) (m := (6 - n).toNat) (by rw [Int.toNat_of_nonneg (by omega)]; exact nb) (31 - (k.toNat + 1)) (k.toNat + 1) (by omega) (by omega)
        omega
    · rw [hP, show 31 - k.toNat = (31 - (k.toNat + 1)) + 1 by omega, mexN, Int.toNat_of_nonneg k0, if_pos d, show (k + 1).toNat = k.toNat + 1 by omega]
  · have eb : μ 267 ((24 * w + i).toNat) = byF R w.toNat i.toNat := by
      rw [← hb w.toNat i.toNat (by omega) (by omega)]
      congr 1; omega
    rw [eb, show (i + 1).toNat = i.toNat + 1 by omega] at *
    refine ⟨⟨by omega, by omega⟩, fun d => ?_, fun d => hK _ _ (by omega) ?_⟩
    · have hv := hI i.toNat (upsF_mem.2 ⟨by omega, d⟩)
      refine ⟨⟨i0, by omega⟩, ⟨by omega, by omega⟩, ⟨by omega, by omega⟩, fun f => ⟨⟨i0, by omega⟩, hK _ _ (by omega) ?_⟩, fun f => ⟨⟨i0, by omega⟩, hK _ _ (by omega) ?_⟩⟩
      · rw [upL_y d, mxL_snoc, setL_snoc]
        exact ⟨by omega, rfl⟩
      · rw [upL_y d, mxL_snoc, setL_snoc]
        exact ⟨by omega, rfl⟩
    · rw [upL_n d]; exact ⟨rfl, rfl⟩
