/-! game, can, move -/
def gx (f : Nat → Int) : Nat → Int
  | 0 => 0
  | n + 1 => xXor (gx f n) (f n)
theorem gx_in (f : Nat → Int) : ∀ n, xIn (gx f n)
  | 0 => xIn0
  | n + 1 => xXor_in _ _
theorem gx_c {f g : Nat → Int} : ∀ n, (∀ t, t < n → f t = g t) → gx f n = gx g n := by
  intro n
  induction n with
  | zero => intros; rfl
  | succ n ih => intro h; simp only [gx]; rw [ih (fun t ht => h t (by omega)), h n (by omega)]
theorem xX_of {x y : Int} : Int32.ofInt (xXor x y) = Int32.ofInt x ^^^ Int32.ofInt y := by unfold xXor; exact Int32.ofInt_toInt _
theorem xX_as (x y z : Int) : xXor (xXor x y) z = xXor x (xXor y z) := by
  show (Int32.ofInt (xXor x y) ^^^ Int32.ofInt z).toInt = (Int32.ofInt x ^^^ Int32.ofInt (xXor y z)).toInt
  rw [xX_of, xX_of, Int32.xor_assoc]
theorem xX_co (x y : Int) : xXor x y = xXor y x := by unfold xXor; rw [Int32.xor_comm]
theorem xX_self (x : Int) : xXor x x = 0 := by unfold xXor; rw [Int32.xor_self]; rfl
theorem xX_z {x : Int} (h : xIn x) : xXor 0 x = x := by
  unfold xXor
  rw [show Int32.ofInt 0 = 0 from rfl, Int32.zero_xor, xI_toInt h]
theorem xX_eq {x y : Int} (hx : xIn x) (hy : xIn y) : xXor x y = 0 ↔ x = y := by
  constructor
  · intro h
    have h2 : xXor x (xXor x y) = x := by rw [h, xX_co, xX_z hx]
    rw [← xX_as, xX_self, xX_z hy] at h2
    exact h2.symm
  · rintro rfl; exact xX_self x
theorem iOpen.nim {μ : xM} (h : iOpen μ) {t : Nat} (ht : t < 3) : μ 206 (μ 250 t).toNat = μ 269 (μ 265 t).toNat ∧ k3 (μ 250 t) ∧ 0 ≤ μ 269 (μ 265 t).toNat ∧ μ 269 (μ 265 t).toNat ≤ 6 := by
  have n := h.2.2.2.1.1.1 t ht
  rw [Nat.zero_add] at n
  have g : ((μ 265 t).toNat : Int) < μ 263 3 ∨ (μ 265 t).toNat = 24 := by
    rcases n.2.2.2.1 with q | q
    · right; omega
    · left; exact q.1
  have x : μ 250 t = μ 265 t := n.1
  refine ⟨?_, ⟨by omega, by omega⟩, (h.2.2.2.2.2.2.2.2.2.2.2.1 _ g).2⟩
  rw [x]
  exact h.2.2.2.2.2.2.2.2.2.1 _ g
theorem s_nim {μ : xM} {Q : Int → xM → Prop} (h : iOpen μ) (hq : Q (gx (fun t => μ 269 (μ 265 t).toNat) (μ 263 0).toNat) μ) : tX10_nimTonight μ Q := by
  have e0 := h.2.2.1.1 0 (by omega)
  have bT := h.2.1.T
  intro _
  refine rd2b (n := μ 263 0) (fun t x => x = gx (fun t => μ 269 (μ 265 t).toNat) t.toNat) (by omega) rfl ?_
  rintro t x K t0 t1 rfl hK
  refine ⟨⟨by omega, by omega⟩, fun c => ⟨gx_in _ _, ?_⟩, fun c => s_at (fun a b _ _ => ?_) (fun z => absurd ⟨t0, by omega⟩ z)⟩
  · rw [show t.toNat = (μ 263 0).toNat by omega]; exact hq
  · have n := h.nim (t := t.toNat) (by omega)
    refine s_nimOf n.2.1.1 (Int.lt_of_le_of_lt n.2.1.2 (by decide)) (fun _ _ => hK _ (by omega) ?_)
    rw [show (t + 1).toNat = t.toNat + 1 by omega]
    show xXor _ (μ 206 (μ 250 t.toNat).toNat) = _
    rw [n.1]; rfl
theorem r_grundyOf {μ : xM} {a b c : Int} {Q : Int → xM → Prop} (hT : 1 ≤ μ 263 0 ∧ μ 263 0 ≤ 3) (ha : k3 a) (hb : k3 b) (hc : k3 c) (hq : Q (gx (fun t => μ 269 (pk a b c t).toNat) (μ 263 0).toNat) μ) : tX11_grundyOf (cd a b c) μ Q := by
  intro _ _
  refine rd2b (n := μ 263 0) (fun t x => x = gx (fun t => μ 269 (pk a b c t).toNat) t.toNat) (by omega) rfl ?_
  rintro t x K t0 t1 rfl hK
  refine ⟨⟨by omega, by omega⟩, fun c => ⟨gx_in _ _, ?_⟩, fun c => r_wordOf ha hb hc (fun _ _ => ?_)⟩
  · rw [show t.toNat = (μ 263 0).toNat by omega]; exact hq
  · have kp := pk_k3 (t := t) ha hb hc
    refine ⟨⟨kp.1, Int.lt_of_le_of_lt kp.2 (by decide)⟩, hK _ (by omega) ?_⟩
    rw [show (t + 1).toNat = t.toNat + 1 by omega]
    show _ = xXor _ (μ 269 (pk a b _ (t.toNat : Int)).toNat)
    rw [Int.toNat_of_nonneg t0]
theorem pk_st {f : Nat → Int} {t : Nat} (ht : t < 3) : pk (f 0) (f 1) (f 2) t = f t := by
  rcases (show t = 0 ∨ t = 1 ∨ t = 2 by omega) with rfl | rfl | rfl <;> rfl
/-- game -/
theorem c_32 {sc : Int → Int} {i : Int} {μ : xM} (hi : Inv μ) : tl_32 sc i μ Inv := by
  have hK : ∀ a, a ≠ 4 → Inv (tr μ a) := fun a => Inv_tr hi
  rcases hi.os with h | h
  · have h14 := h.1
    have bT := h.2.1.T
    have hn := h.2.2.2.1.1
    intro _
    refine k_open h (fun _ _ => ⟨fun z => absurd z (by decide), fun _ => s_nim h (fun _ _ => s_granted (fun _ _ _ _ => ?_))⟩)
    intro _
    refine s_good (fun _ => ⟨fun z => absurd (h14.symm.trans z) (by decide), fun _ => r_code (iOpen_m h 0).2.2.2.1.1 (fun _ _ => r_grundyOf bT (hn.kk 0 (by omega)) (hn.kk 1 (by omega)) (hn.kk 2 (by omega)) (fun _ _ _ _ => ⟨?_, hK 0 (by decide)⟩))⟩)
    refine gx_c _ (fun t ht => ?_)
    show μ 269 (μ 265 t).toNat = μ 269 (pk (μ 265 0) (μ 265 1) (μ 265 2) t).toNat
    rw [pk_st (f := μ 265) (show t < 3 by have : t < (μ 263 0).toNat := ht; omega)]
  · have h14 := h.1
    unfold tl_32
    repeat' (first
      | with_reducible refine k_shut h ?_
      | with_reducible refine s_refused ?_
      | with_reducible refine s_good ?_
      | with_reducible refine s_no ?_
      | (intro zq; exact absurd zq (by decide))
      | (intro zq; exact absurd h14 zq)
      | intro _
      | with_reducible refine And.intro ?_ ?_)
    all_goals first | rfl | contradiction | (exact K_no (hK _ (by decide))) | (exact hK _ (by decide)) | omega | (unfold goodI wordF at *; omega) | skip
/-! loops over what a word becomes -/
theorem upsF_lt {R : Nat → Int} {w i j : Nat} (hi : i < (upsF R w).length) (hj : j < (upsF R w).length) (h : i < j) : (upsF R w)[i] < (upsF R w)[j] := by
  have : (upsF R w).Pairwise (· < ·) := List.Pairwise.filter _ List.pairwise_lt_range
  exact List.pairwise_iff_getElem.1 this i j hi hj h
theorem iOpen.up {μ : xM} (h : iOpen μ) {w i : Nat} (hw : w < 25) (hi : i < (upsF (μ 263) w).length) : μ (127 + w) i = (upsF (μ 263) w)[i] ∧ μ (153 + w) i = byF (μ 263) w (upsF (μ 263) w)[i] ∧ (upsF (μ 263) w)[i] < 24 ∧ 0 ≤ byF (μ 263) w (upsF (μ 263) w)[i] := by
  have q := (h.2.2.2.2.2.2.1 w hw).2 i hi
  have m := upsF_mem.1 (List.getElem_mem hi)
  exact ⟨q.1, q.2, m.1, m.2⟩
theorem upsF_len {R : Nat → Int} {w : Nat} : (upsF R w).length ≤ 24 := by
  unfold upsF
  exact Nat.le_trans (List.length_filter_le _ _) (by simp)
/-- how many words it becomes by a letter -/
noncomputable def wayN (R : Nat → Int) (w : Nat) (x : Int) (n : Nat) : Nat := ((List.range n).filter (fun v => decide (byF R w v = x))).length
theorem wayN_succ (R : Nat → Int) (w : Nat) (x : Int) (n : Nat) : wayN R w x (n + 1) = wayN R w x n + if byF R w n = x then 1 else 0 := by
  unfold wayN
  rw [List.range_succ, List.filter_append, List.length_append]
  by_cases h : byF R w n = x <;> simp [h]
theorem upsBy_range {R : Nat → Int} {w : Nat} {x : Int} (hx : 0 ≤ x) : upsBy R w x = (List.range 24).filter (fun v => decide (byF R w v = x)) := by
  unfold upsBy upsF
  rw [List.filter_filter]
  refine List.filter_congr (fun v _ => ?_)
  by_cases h : byF R w v = x
  · simp [h, hx]
  · simp [h]
theorem byF_out {R : Nat → Int} {w v : Nat} (h : R 3 ≤ v) : byF R w v = -1 := byF_no (fun z => by have := z.2.1; omega)
theorem way_out {R : Nat → Int} {w : Nat} {x : Int} (hx : 0 ≤ x) (hR : 0 ≤ R 3) : ∀ n : Nat, (R 3).toNat ≤ n → wayN R w x n = wayN R w x (R 3).toNat := by
  intro n hn
  induction n with
  | zero => rw [show (R 3).toNat = 0 by omega]
  | succ n ih =>
    by_cases e : (R 3).toNat = n + 1
    · rw [e]
    · rw [wayN_succ, ih (by omega), byF_out (by omega), if_neg (by omega)]; rfl
theorem upsBy_len {R : Nat → Int} (hR : okR R) {w : Nat} {x : Int} (hx : 0 ≤ x) : (upsBy R w x).length = wayN R w x (R 3).toNat := by
  rw [upsBy_range hx]
  exact way_out hx (by have := hR.W; omega) 24 (by have := hR.W; omega)
theorem s_waysBy {μ : xM} {w x : Int} {Q : Int → xM → Prop} (h : iOpen μ) (w0 : 0 ≤ w) (w1 : w < 25) (hq : Q ((upsBy (μ 263) w.toNat x).length : Int) μ) : tX1_waysBy w x μ Q := by
  have q := (h.2.2.2.2.2.2.1 w.toNat (by omega)).1
  have ql := upsF_len (R := μ 263) (w := w.toNat)
  intro _ _ _
  refine rd2b (n := ((upsF (μ 263) w.toNat).length : Int)) (fun i b => 0 ≤ b ∧ b = ((((upsF (μ 263) w.toNat).take i.toNat).filter (fun v => decide (byF (μ 263) w.toNat v = x))).length : Int) ∧ b ≤ i) (by omega) ⟨by omega, by simp, by omega⟩ ?_
  rintro i b K i0 i1 ⟨b0, rfl, b2⟩ hK
  refine s_ups w0 w1 (fun _ _ => ⟨⟨by omega, by omega⟩, fun c => ⟨⟨by omega, by omega⟩, ?_⟩, fun c => ?_⟩)
  · rw [List.take_of_length_le (by omega)]; exact hq
  · have hi : i.toNat < (upsF (μ 263) w.toNat).length := by omega
    have u := h.up (w := w.toNat) (by omega) hi
    refine s_byOf w0 w1 i0 (by omega) (fun _ _ => ?_)
    rw [u.2.1]
    have et : (upsF (μ 263) w.toNat).take (i + 1).toNat = (upsF (μ 263) w.toNat).take i.toNat ++ [(upsF (μ 263) w.toNat)[i.toNat]] := by
      rw [show (i + 1).toNat = i.toNat + 1 by omega]; exact (List.take_append_getElem hi).symm
    refine ⟨fun z => hK _ (by omega) ⟨b0, ?_, by omega⟩, fun z => hK _ (by omega) ⟨by omega, ?_, by omega⟩⟩
    · rw [et, List.filter_append, List.length_append]; simp [z]
    · rw [et, List.filter_append, List.length_append]; simp [z]
def wayS (R : Nat → Int) (f : Nat → Nat) : Nat → Nat
  | 0 => 0
  | t + 1 => wayS R f t + f t
theorem wayN_le (R : Nat → Int) (w : Nat) (x : Int) (n : Nat) : wayN R w x n ≤ n := by
  unfold wayN
  exact Nat.le_trans (List.length_filter_le _ _) (by simp)
/-- can -/
theorem c_23 {sc : Int → Int} {i : Int} {μ : xM} (hi : Inv μ) : tl_23 sc i μ Inv := by
  have hK : ∀ a, a ≠ 4 → Inv (tr μ a) := fun a => Inv_tr hi
  rcases hi.os with h | h
  · have h14 := h.1
    have bT := h.2.1.T
    have bN := h.2.1.N
    have bW := h.2.1.W
    have hn := h.2.2.2.1.1
    have e0 := h.2.2.1.1 0 (by omega)
    have e4 := h.2.2.1.1 4 (by omega)
    have n2 := hn.2.2.1
    have n21 : μ 249 1 = μ 265 4 := n2.1
    obtain ⟨x, hx⟩ : ∃ x, x = μ 263 (295 + (μ 249 1).toNat) := ⟨_, rfl⟩
    obtain ⟨F, hF⟩ : ∃ F : Nat → Nat, F = fun t => wayN (μ 263) (μ 265 t).toNat x (μ 263 3).toNat := ⟨_, rfl⟩
    have Fl : ∀ t, F t ≤ 24 := fun t => by rw [hF]; exact Nat.le_trans (wayN_le _ _ _ _) (by omega)
    have Sl : ∀ t : Nat, wayS (μ 263) F t ≤ 24 * t := by
      intro t
      induction t with
      | zero => exact Nat.le_refl _
      | succ t ih => have := Fl t; simp only [wayS]; omega
    intro _
    refine k_open h (fun _ _ => ⟨fun _ => ⟨fun c => ?_, fun c => ?_⟩, fun z => absurd z (by decide)⟩)
    · have bx := h.2.1.fst (g := (μ 249 1).toNat) (by omega)
      rw [← hx] at bx
      refine k_first h (fun a b _ _ => ?_) (fun z => absurd ⟨n2.2.1, by omega⟩ z)
      rw [← hx]
      refine rd2b (n := μ 263 0) (fun t b => b = (wayS (μ 263) F t.toNat : Int)) (by omega) rfl ?_
      rintro t b K t0 t1 rfl hK2
      have st := Sl t.toNat
      refine ⟨⟨by omega, by omega⟩, fun d => ⟨⟨by omega, by omega⟩, s_granted (fun _ _ _ _ => ?_)⟩, fun d => s_at (fun _ _ _ _ => ?_) (fun z => absurd ⟨t0, by omega⟩ z)⟩
      · rw [show t.toNat = (μ 263 0).toNat by omega]
        intro _
        refine s_good (fun _ => ⟨fun _ => ⟨fun _ => ?_, fun z => absurd (show μ 265 4 = μ 263 4 from z) (by omega)⟩, fun z => absurd (h14.symm.trans z) (by decide)⟩)
        refine rd2b (n := μ 263 0) (fun t b => b = (wayS (μ 263) F t.toNat : Int)) (by omega) rfl ?_
        rintro t b K t0 t1 rfl hK2
        have st := Sl t.toNat
        refine ⟨⟨by omega, by omega⟩, fun d => ⟨⟨by omega, by omega⟩, fun _ _ => ⟨?_, hK 0 (by decide)⟩⟩, fun d => ?_⟩
        · rw [show t.toNat = (μ 263 0).toNat by have : μ 263 0 ≤ t := d; omega]
        · refine rd2b (n := μ 263 3) (fun v b => b = (wayS (μ 263) F t.toNat : Int) + (wayN (μ 263) (μ 265 t.toNat).toNat x v.toNat : Int)) (by omega) (by simp [wayN]) ?_
          rintro v b K3 v0 v1 rfl hK3
          have d2 : ¬ μ 263 0 ≤ t := d
          refine ⟨⟨by omega, by omega⟩, fun e => hK2 _ (by omega) ?_, fun e => r_code (iOpen_m h 0).2.2.2.1.1 (fun _ _ => ⟨⟨show 0 ≤ 295 + μ 265 4 by omega, show 295 + μ 265 4 < 322 by omega⟩, ⟨by omega, by omega⟩, ?_⟩)⟩
          · rw [show (t + 1).toNat = t.toNat + 1 by omega, show v.toNat = (μ 263 3).toNat by have : μ 263 3 ≤ v := e; omega, wayS]
            have hFt : F t.toNat = wayN (μ 263) (μ 265 t.toNat).toNat x (μ 263 3).toNat := by rw [hF]
            omega
          · have e2 : ¬ μ 263 3 ≤ v := e
            have ex : μ 263 ((295 + μ 265 4).toNat) = x := by rw [hx, show (295 + μ 265 4).toNat = 295 + (μ 249 1).toNat by omega]
            have ep : pk (μ 265 0) (μ 265 1) (μ 265 2) t = μ 265 t.toNat := by
              have := pk_st (f := μ 265) (t := t.toNat) (by omega)
              rw [Int.toNat_of_nonneg t0] at this; exact this
            have sc := wayN_succ (μ 263) (μ 265 t.toNat).toNat x v.toNat
            refine r_wordAfter (R := μ 263) (iOpen_m h 0) rfl (hn.kk 0 (by omega)) (hn.kk 1 (by omega)) (hn.kk 2 (by omega)) v0 (by omega) (fun z _ _ => ⟨fun _ => hK3 _ (by omega) ?_, fun z2 => absurd (wt_rng (hn.kk 0 (by omega)) (hn.kk 1 (by omega)) (hn.kk 2 (by omega)) ⟨v0, by omega⟩).1 z2⟩) (fun z _ _ => ⟨fun z2 => absurd z2 (by decide), fun _ => hK3 _ (by omega) ?_⟩)
            · have z2 : byF (μ 263) (pk (μ 265 0) (μ 265 1) (μ 265 2) t).toNat v.toNat = μ 263 ((295 + μ 265 4).toNat) := z
              rw [ex, ep] at z2
              rw [show (v + 1).toNat = v.toNat + 1 by omega, sc, if_pos z2]; omega
            · have z2 : ¬ byF (μ 263) (pk (μ 265 0) (μ 265 1) (μ 265 2) t).toNat v.toNat = μ 263 ((295 + μ 265 4).toNat) := z
              rw [ex, ep] at z2
              rw [show (v + 1).toNat = v.toNat + 1 by omega, sc, if_neg z2]; omega
      · have n := h.nim (t := t.toNat) (by omega)
        have ne : μ 250 t.toNat = μ 265 t.toNat := by have := (hn.1 t.toNat (by omega)).1; rw [Nat.zero_add] at this; exact this
        refine s_waysBy h n.2.1.1 (Int.lt_of_le_of_lt n.2.1.2 (by decide)) (fun _ _ => hK2 _ (by omega) ?_)
        rw [show (t + 1).toNat = t.toNat + 1 by omega, upsBy_len h.2.1 bx.1, show (249 + 1) = 250 from rfl, ne, wayS]
        have hFt : F t.toNat = wayN (μ 263) (μ 265 t.toNat).toNat x (μ 263 3).toNat := by rw [hF]
        omega
    · refine s_refused (fun _ _ _ _ => ?_)
      intro _
      exact s_good (fun _ => ⟨fun _ => ⟨fun z => absurd (show μ 265 4 = μ 263 4 by omega) z, fun _ => s_no (fun _ _ _ _ => ⟨rfl, K_no (hK 6 (by decide))⟩)⟩, fun z => absurd (h14.symm.trans z) (by decide)⟩)
  · have h14 := h.1
    unfold tl_23
    repeat' (first
      | with_reducible refine k_shut h ?_
      | with_reducible refine s_refused ?_
      | with_reducible refine s_good ?_
      | with_reducible refine s_no ?_
      | (intro zq; exact absurd zq (by decide))
      | (intro zq; exact absurd h14 zq)
      | intro _
      | with_reducible refine And.intro ?_ ?_)
    all_goals first | rfl | contradiction | (exact K_no (hK _ (by decide))) | (exact hK _ (by decide)) | omega | (unfold goodI wordF at *; omega) | skip

/-! move: the least way that is a good one -/
def isMv (G : Nat → Nat → Prop) (T : Nat) (r : Int) : Prop := (r = -2 ∧ ∀ t v, t < T → v < 24 → ¬ G t v) ∨ ∃ t v : Nat, t < T ∧ v < 24 ∧ G t v ∧ r = 24 * t + v ∧ ∀ t' v', t' < T → v' < 24 → G t' v' → 24 * t + v ≤ 24 * t' + v'
theorem isMv_u {G : Nat → Nat → Prop} {T : Nat} {r s : Int} (h : isMv G T r) (h2 : isMv G T s) : r = s := by
  rcases h with ⟨rfl, h⟩ | ⟨t, v, a, b, c, rfl, e⟩ <;> rcases h2 with ⟨rfl, h2⟩ | ⟨t', v', a', b', c', rfl, e'⟩
  · rfl
  · exact absurd c' (h _ _ a' b')
  · exact absurd c (h2 _ _ a b)
  · have := e _ _ a' b' c'
    have := e' _ _ a b c
    omega
theorem gx_set {f : Nat → Int} (hf : ∀ t, xIn (f t)) {t : Nat} {y : Int} (hy : xIn y) : ∀ n, t < n → gx (fun s => if s = t then y else f s) n = xXor (xXor (gx f n) (f t)) y := by
  intro n
  induction n with
  | zero => intro h; omega
  | succ n ih =>
    intro h
    by_cases e : t = n
    · subst e
      simp only [gx, if_true]
      have : gx (fun s => if s = t then y else f s) t = gx f t := gx_c _ (fun s hs => if_neg (by omega))
      rw [this, xX_as (gx f t), xX_self, xX_co (gx f t) 0, xX_z (gx_in _ _)]
    · simp only [gx]
      rw [ih (by omega), if_neg (fun z => e z.symm)]
      rw [xX_as (gx f n) (f n), xX_co (f n) (f t), ← xX_as (gx f n) (f t), xX_as _ (f n) y, xX_co (f n) y, ← xX_as]
theorem r_moveG {μ : xM} (h : iOpen μ) {t v : Nat} (ht : t < (μ 263 0).toNat) (hv : v < 24) (hb : 0 ≤ byF (μ 263) (μ 265 t).toNat v) :
    gx (fun s => μ 269 (pk (if (t : Int) = 0 then v else μ 265 0) (if (t : Int) = 1 then v else μ 265 1) (if (t : Int) = 0 ∨ (t : Int) = 1 then μ 265 2 else v) s).toNat) (μ 263 0).toNat = 0 ↔ μ 206 v = xXor (gx (fun t => μ 269 (μ 265 t).toNat) (μ 263 0).toNat) (μ 206 (μ 250 t).toNat) := by
  have bT := h.2.1.T
  have g := (byF_ge hb).1
  have n := h.nim (t := t) (by omega)
  have nv := h.2.2.2.2.2.2.2.2.2.1 v (Or.inl g.1)
  have nb := (h.2.2.2.2.2.2.2.2.2.2.2.1 v (Or.inl g.1)).2
  have e : gx (fun s => μ 269 (pk (if (t : Int) = 0 then v else μ 265 0) (if (t : Int) = 1 then v else μ 265 1) (if (t : Int) = 0 ∨ (t : Int) = 1 then μ 265 2 else v) s).toNat) (μ 263 0).toNat = gx (fun s => if s = t then μ 206 v else μ 269 (μ 265 (s % 3)).toNat) (μ 263 0).toNat := by
    refine gx_c _ (fun s hs => ?_)
    rw [nv]
    rcases (show t = 0 ∨ t = 1 ∨ t = 2 by omega) with rfl | rfl | rfl <;> rcases (show s = 0 ∨ s = 1 ∨ s = 2 by omega) with rfl | rfl | rfl <;> rfl
  have e2 : gx (fun t => μ 269 (μ 265 t).toNat) (μ 263 0).toNat = gx (fun s => μ 269 (μ 265 (s % 3)).toNat) (μ 263 0).toNat := by
    refine gx_c _ (fun s hs => ?_)
    rw [Nat.mod_eq_of_lt (show s < 3 by omega)]
  have hin : ∀ s, xIn ((fun s => μ 269 (μ 265 (s % 3)).toNat) s) := fun s => by
    have := h.nim (t := s % 3) (by omega)
    show xIn (μ 269 (μ 265 (s % 3)).toNat)
    unfold xIn; omega
  rw [e, gx_set hin (by rw [nv]; unfold xIn; omega) _ ht, e2, n.1, Nat.mod_eq_of_lt (show t < 3 by omega), xX_eq (xXor_in _ _) (by rw [nv]; unfold xIn; omega)]
  exact ⟨fun z => z.symm, fun z => z.symm⟩
theorem c_33 {sc : Int → Int} {i : Int} {μ : xM} (hi : Inv μ) : tl_33 sc i μ Inv := by
  have hK : ∀ a, a ≠ 4 → Inv (tr μ a) := fun a => Inv_tr hi
  rcases hi.os with h | h
  · have h14 := h.1
    have bT := h.2.1.T
    have bW := h.2.1.W
    have hn := h.2.2.2.1.1
    have e0 := h.2.2.1.1 0 (by omega)
    obtain ⟨A, hA⟩ : ∃ A, A = gx (fun t => μ 269 (μ 265 t).toNat) (μ 263 0).toNat := ⟨_, rfl⟩
    obtain ⟨G, hG⟩ : ∃ G : Nat → Nat → Prop, G = fun t v => 0 ≤ byF (μ 263) (μ 265 t).toNat v ∧ μ 206 v = xXor A (μ 206 (μ 250 t).toNat) := ⟨_, rfl⟩
    have ne : ∀ t : Nat, t < 3 → μ 250 t = μ 265 t := fun t ht => by have := (hn.1 t ht).1; rw [Nat.zero_add] at this; exact this
    have ref : ∀ r : Int, isMv G (μ 263 0).toNat r → tX11_move (wi μ 0 18 0) (fun r' ν => (xIn r') → xRan ν → ((r = r') ∧ (Inv ν))) := by
      intro r hr _
      refine s_good (fun _ => ⟨fun _ => ?_, fun z => absurd (h14.symm.trans z) (by decide)⟩)
      refine rd1 (n := μ 263 0) (fun t => ∀ t' v : Nat, (t' : Int) < t → v < 24 → ¬ G t' v) (by omega) (fun t' v z => absurd z (by omega)) ?_
      intro t K t0 t1 hP hK2
      refine ⟨⟨by omega, by omega⟩, fun c _ _ => ⟨?_, hK 0 (by decide)⟩, fun c => ?_⟩
      · exact isMv_u hr (Or.inl ⟨rfl, fun t' v a b => hP t' v (by have : μ 263 0 ≤ t := c; omega) b⟩)
      · have c2 : ¬ μ 263 0 ≤ t := c
        refine rd1 (n := μ 263 3) (fun v => ∀ v' : Nat, (v' : Int) < v → ¬ G t.toNat v') (by omega) (fun v' z => absurd z (by omega)) ?_
        intro v K3 v0 v1 hP3 hK3
        have kt := hn.kk t.toNat (by omega)
        rw [Nat.zero_add] at kt
        have eb : μ 267 ((24 * μ 265 t.toNat + v).toNat) = byF (μ 263) (μ 265 t.toNat).toNat v.toNat ∨ 24 ≤ v := by
          by_cases q : v < 24
          · left
            rw [← (h.2.2.2.2.2.1 (μ 265 t.toNat).toNat v.toNat (by unfold k3 at kt; omega) (by omega)).1]
            congr 1; unfold k3 at kt; omega
          · right; omega
        refine ⟨⟨by omega, by omega⟩, fun d => hK2 (by omega) ?_, fun d => ⟨⟨t0, by omega⟩, ⟨show 0 ≤ 24 * μ 265 t.toNat + v by unfold k3 at kt; omega, show 24 * μ 265 t.toNat + v < 600 by have : ¬ μ 263 3 ≤ v := d; unfold k3 at kt; omega⟩, ?_, ?_⟩⟩
        · intro t' v' a b
          by_cases q : t' = t.toNat
          · subst q
            by_cases q2 : (v' : Int) < v
            · exact hP3 v' q2
            · rw [hG]; rintro ⟨z, _⟩
              rw [byF_out (by have : μ 263 3 ≤ v := d; omega)] at z; omega
          · exact hP t' v' (by omega) b
        · have d2 : ¬ μ 263 3 ≤ v := d
          have eb := eb.resolve_right (by omega)
          intro z
          have z2 : μ 267 ((24 * μ 265 t.toNat + v).toNat) < 0 := z
          rw [eb] at z2
          refine hK3 (by omega) (fun v' a => ?_)
          by_cases q2 : (v' : Int) < v
          · exact hP3 v' q2
          · rw [hG]; rintro ⟨q3, _⟩
            rw [show v' = v.toNat by omega] at q3; omega
        · have d2 : ¬ μ 263 3 ≤ v := d
          have eb := eb.resolve_right (by omega)
          intro z
          have z2 : ¬ μ 267 ((24 * μ 265 t.toNat + v).toNat) < 0 := z
          rw [eb] at z2
          have kv : k3 v := ⟨v0, by omega⟩
          have mg := r_moveG h (t := t.toNat) (v := v.toNat) (by omega) (by omega) (by omega)
          rw [Int.toNat_of_nonneg t0, Int.toNat_of_nonneg v0, ← hA] at mg
          refine r_code (iOpen_m h 0).2.2.2.1.1 (fun _ _ => ⟨⟨by omega, by omega⟩, r_withWord (hn.kk 0 (by omega)) (hn.kk 1 (by omega)) (hn.kk 2 (by omega)) kv (fun _ _ => r_grundyOf bT ?_ ?_ ?_ (fun _ _ => ⟨fun q => hK3 (by omega) (fun v' a => ?_), fun q => ⟨⟨by omega, by omega⟩, fun _ _ => ⟨isMv_u hr (Or.inr ⟨t.toNat, v.toNat, by omega, by omega, ?_, by omega, ?_⟩), hK 0 (by decide)⟩⟩⟩))⟩)
          · split; exact kv; exact hn.kk 0 (by omega)
          · split; exact kv; exact hn.kk 1 (by omega)
          · split; exact hn.kk 2 (by omega); exact kv
          · by_cases q2 : (v' : Int) < v
            · exact hP3 v' q2
            · rw [show v' = v.toNat by omega, hG]; rintro ⟨_, q4⟩
              exact q (mg.2 q4)
          · rw [hG]; exact ⟨by omega, mg.1 q⟩
          · intro t' v' a b g
            rcases Int.lt_or_le (t' : Int) t with q5 | q5
            · exact absurd g (hP t' v' q5 b)
            · by_cases q6 : t' = t.toNat
              · subst q6
                rcases Int.lt_or_le (v' : Int) v with q7 | q7
                · exact absurd g (hP3 v' q7)
                · omega
              · omega
    intro _
    refine k_open h (fun _ _ => ⟨fun _ => s_nim h (fun _ _ => ?_), fun z => absurd z (by decide)⟩)
    rw [← hA]
    refine rd1 (n := μ 263 0) (fun t => ∀ t' v : Nat, (t' : Int) < t → v < 24 → ¬ G t' v) (by omega) (fun t' v z => absurd z (by omega)) ?_
    intro t K t0 t1 hP hK2
    refine ⟨⟨by omega, by omega⟩, fun c => s_granted (fun _ _ _ _ => ref _ (Or.inl ⟨rfl, fun t' v a b => hP t' v (by omega) b⟩)), fun c => s_at (fun _ _ _ _ => ?_) (fun z => absurd ⟨t0, by omega⟩ z)⟩
    have n := h.nim (t := t.toNat) (by omega)
    have w0 := n.2.1.1
    have w1 := n.2.1.2
    have ne := ne t.toNat (by omega)
    refine s_nimOf w0 (Int.lt_of_le_of_lt w1 (by decide)) (fun _ _ => ?_)
    refine rd1 (n := ((upsF (μ 263) (μ 250 t.toNat).toNat).length : Int)) (fun j => ∀ k : Nat, (hk : k < (upsF (μ 263) (μ 250 t.toNat).toNat).length) → (k : Int) < j → ¬ G t.toNat (upsF (μ 263) (μ 250 t.toNat).toNat)[k]) (by omega) (fun k _ z => absurd z (by omega)) ?_
    intro j K3 j0 j1 hP3 hK3
    have q := (h.2.2.2.2.2.2.1 (μ 250 t.toNat).toNat (by omega)).1
    have ql := upsF_len (R := μ 263) (w := (μ 250 t.toNat).toNat)
    have all : ∀ v : Nat, v < 24 → G t.toNat v → ∃ k, ∃ hk : k < (upsF (μ 263) (μ 250 t.toNat).toNat).length, v = (upsF (μ 263) (μ 250 t.toNat).toNat)[k] := by
      intro v hv g
      rw [hG] at g
      have m : v ∈ upsF (μ 263) (μ 250 t.toNat).toNat := upsF_mem.2 ⟨hv, by rw [ne]; exact g.1⟩
      obtain ⟨k, hk, e⟩ := List.getElem_of_mem m
      exact ⟨k, hk, e.symm⟩
    refine s_ups w0 (Int.lt_of_le_of_lt w1 (by decide)) (fun _ _ => ⟨⟨by omega, by omega⟩, fun d => hK2 (by omega) ?_, fun d => ?_⟩)
    · intro t' v a b g
      by_cases q5 : t' = t.toNat
      · subst q5
        obtain ⟨k, hk, e⟩ := all v b g
        exact hP3 k hk (by have d : μ 178 (μ 250 t.toNat).toNat ≤ j := d; omega) (e ▸ g)
      · exact hP t' v (by omega) b g
    · have d : ¬ μ 178 (μ 250 t.toNat).toNat ≤ j := d
      have hj : j.toNat < (upsF (μ 263) (μ 250 t.toNat).toNat).length := by omega
      have u := h.up (w := (μ 250 t.toNat).toNat) (by omega) hj
      refine s_upOf w0 (Int.lt_of_le_of_lt w1 (by decide)) j0 (by omega) (fun _ _ => ?_)
      show tX1_nimOf (μ (127 + (μ 250 t.toNat).toNat) j.toNat) _ _
      rw [u.1]
      refine s_nimOf (by omega) (by omega) (fun _ _ => ?_)
      rw [Int.toNat_natCast]
      refine ⟨fun z => hK3 (by omega) (fun k hk a g => ?_), fun z => ⟨⟨by omega, by omega⟩, s_granted (fun _ _ _ _ => ref _ (Or.inr ⟨t.toNat, _, by omega, u.2.2.1, ?_, by omega, ?_⟩))⟩⟩
      · by_cases q5 : (k : Int) < j
        · exact hP3 k hk q5 g
        · have : k = j.toNat := by omega
          subst this
          rw [hG] at g
          exact z g.2
      · rw [hG]; exact ⟨by rw [← ne]; exact u.2.2.2, z⟩
      · intro t' v' a b g
        rcases Int.lt_or_le (t' : Int) t with q5 | q5
        · exact absurd g (hP t' v' q5 b)
        · by_cases q6 : t' = t.toNat
          · subst q6
            obtain ⟨k, hk, e⟩ := all v' b g
            subst e
            rcases Nat.lt_trichotomy k j.toNat with q7 | q7 | q7
            · exact absurd g (hP3 k hk (by omega))
            · subst q7; omega
            · have := upsF_lt hj hk q7; omega
          · omega
  · have h14 := h.1
    unfold tl_33
    repeat' (first
      | with_reducible refine k_shut h ?_
      | with_reducible refine s_refused ?_
      | with_reducible refine s_good ?_
      | with_reducible refine s_no ?_
      | (intro zq; exact absurd zq (by decide))
      | (intro zq; exact absurd h14 zq)
      | intro _
      | with_reducible refine And.intro ?_ ?_)
    all_goals first | rfl | contradiction | (exact K_no (hK _ (by decide))) | (exact hK _ (by decide)) | omega | (unfold goodI wordF at *; omega) | skip
