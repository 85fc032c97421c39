/-! an evening seen -/
def okSeen (R : Nat → Int) (i : Nat) : Prop := goodF R (R (315 + i)).toNat ∧ (i = 0 ∨ 0 ≤ byF R (R (315 + (i - 1))).toNat (R (315 + i)).toNat)
def isFw (R : Nat → Int) (r : Int) : Prop := (r = -2 ∧ ∀ i : Nat, (i : Int) < R 6 → okSeen R i) ∨ ∃ i : Nat, r = i ∧ (i : Int) < R 6 ∧ ¬ okSeen R i ∧ ∀ j : Nat, j < i → okSeen R j
theorem isFw_u {R : Nat → Int} {r s : Int} (h : isFw R r) (h2 : isFw R s) : r = s := by
  rcases h with ⟨rfl, h⟩ | ⟨i, rfl, a, b, c⟩ <;> rcases h2 with ⟨rfl, h2⟩ | ⟨i', rfl, a', b', c'⟩
  · rfl
  · exact absurd (h _ a') b'
  · exact absurd (h2 _ a) b
  · rcases Nat.lt_trichotomy i i' with q | q | q
    · exact absurd (c' _ q) b
    · rw [q]
    · exact absurd (c _ q) b'
theorem isFw_rng {R : Nat → Int} (hR : okR R) {r : Int} (h : isFw R r) : -2 ≤ r ∧ r < 6 := by
  have := hR.S
  rcases h with ⟨rfl, _⟩ | ⟨i, rfl, a, _⟩ <;> omega
theorem s_grownBy {μ : xM} {i : Int} {Q : Int → xM → Prop} (h : iOpen μ) (h0 : 0 < i) (h1 : i < μ 263 6) (hq : Q (byF (μ 263) (μ 263 (315 + (i.toNat - 1))).toNat (μ 263 (315 + i.toNat)).toNat) μ) : tX6_grownBy i μ Q := by
  have bW := h.2.1.W
  have s1 := h.2.1.see (i := i.toNat) (by omega)
  have s0 := h.2.1.see (i := i.toNat - 1) (by omega)
  have bS := h.2.1.S
  intro _ _
  refine ⟨⟨by omega, by omega⟩, k_seen h (by omega) (by omega) (fun _ _ => k_seen h (by omega) h1 (fun _ _ => ?_))⟩
  rw [show (i - 1).toNat = i.toNat - 1 by omega]
  exact k_letterOf h s0.1 (by omega) s1.1 (by omega) (fun _ _ => hq)
theorem s_firstWrong {μ : xM} {Q : Int → xM → Prop} (h : iOpen μ) (hq : ∀ r, isFw (μ 263) r → Q r μ) : tX6_firstWrong μ Q := by
  have bS := h.2.1.S
  have e6 := h.2.2.1.1 6 (by omega)
  intro _
  refine rd1 (n := μ 263 6) (fun i => ∀ j : Nat, (j : Int) < i → okSeen (μ 263) j) (by omega) (fun j z => absurd z (by omega)) ?_
  intro i K i0 i1 hP hK
  have nx : okSeen (μ 263) i.toNat → ∀ j : Nat, (j : Int) < i + 1 → okSeen (μ 263) j := by
    intro q j hj
    by_cases e : j = i.toNat
    · rw [e]; exact q
    · exact hP j (by omega)
  refine ⟨⟨by omega, by omega⟩, fun c => hq _ (Or.inl ⟨rfl, fun j hj => hP j (by omega)⟩), fun c => k_seen h i0 (by omega) (fun _ _ => ?_)⟩
  have s1 := h.2.1.see (i := i.toNat) (by omega)
  refine k_good h (fun g _ _ => ⟨fun z => absurd z (by decide), fun _ => ⟨fun d => hK (by omega) (nx ⟨(goodI_nat s1.1).1 g, Or.inl (by omega)⟩), fun d => s_grownBy h (by omega) (by omega) (fun _ _ => ⟨fun e => hK (by omega) (nx ⟨(goodI_nat s1.1).1 g, Or.inr e⟩), fun e => hq _ (Or.inr ⟨i.toNat, by omega, by omega, fun z => ?_, fun j hj => hP j (by omega)⟩)⟩)⟩⟩) (fun g _ _ => ⟨fun _ => hq _ (Or.inr ⟨i.toNat, by omega, by omega, fun z => g ((goodI_nat s1.1).2 z.1), fun j hj => hP j (by omega)⟩), fun z => absurd z (by decide)⟩)
  rcases z.2 with z | z
  · omega
  · exact e z
theorem r_firstWrong {μ : xM} {R : Nat → Int} {Q : Int → xM → Prop} (h : iOpen μ) (hR : μ 263 = R) (hq : ∀ r, isFw R r → Q r μ) : tX11_firstWrong μ Q := by
  subst hR
  have bS := h.2.1.S
  have bW := h.2.1.W
  intro _
  refine rd1 (n := μ 263 6) (fun i => ∀ j : Nat, (j : Int) < i → okSeen (μ 263) j) (by omega) (fun j z => absurd z (by omega)) ?_
  intro i K i0 i1 hP hK
  have nx : okSeen (μ 263) i.toNat → ∀ j : Nat, (j : Int) < i + 1 → okSeen (μ 263) j := by
    intro q j hj
    by_cases e : j = i.toNat
    · rw [e]; exact q
    · exact hP j (by omega)
  rw [show (315 + i).toNat = 315 + i.toNat by omega]
  refine ⟨⟨by omega, by omega⟩, fun c => hq _ (Or.inl ⟨rfl, fun j hj => hP j (by omega)⟩), fun c => ⟨⟨by omega, by omega⟩, ?_⟩⟩
  have s1 := h.2.1.see (i := i.toNat) (by omega)
  refine r_good rfl s1 bW.2 (fun g _ _ => ⟨fun z => absurd z (by decide), fun _ => ⟨fun d => hK (by omega) (nx ⟨(goodI_nat s1.1).1 g, Or.inl (by omega)⟩), fun d => ?_⟩⟩) (fun g _ _ => ⟨fun _ => hq _ (Or.inr ⟨i.toNat, by omega, by omega, fun z => g ((goodI_nat s1.1).2 z.1), fun j hj => hP j (by omega)⟩), fun z => absurd z (by decide)⟩)
  have s0 := h.2.1.see (i := i.toNat - 1) (by omega)
  rw [show (315 + i - 1).toNat = 315 + (i.toNat - 1) by omega]
  have e : μ 267 ((24 * μ 263 (315 + (i.toNat - 1)) + μ 263 (315 + i.toNat)).toNat) = byF (μ 263) (μ 263 (315 + (i.toNat - 1))).toNat (μ 263 (315 + i.toNat)).toNat := by
    rw [← (h.2.2.2.2.2.1 (μ 263 (315 + (i.toNat - 1))).toNat (μ 263 (315 + i.toNat)).toNat (by omega) (by omega)).1]
    congr 1; omega
  rw [e]
  refine ⟨⟨by omega, by omega⟩, ⟨by omega, by omega⟩, fun e => hK (by omega) (nx ⟨(goodI_nat s1.1).1 g, Or.inr e⟩), fun e => hq _ (Or.inr ⟨i.toNat, by omega, by omega, fun z => ?_, fun j hj => hP j (by omega)⟩)⟩
  rcases z.2 with z | z
  · omega
  · exact e z
/-- wrong -/
theorem c_36 {sc : Int → Int} {i : Int} {μ : xM} (hi : Inv μ) : tl_36 sc i μ Inv := by
  have hK : ∀ a, a ≠ 4 → Inv (tr μ a) := fun a => Inv_tr hi
  rcases hi.os with h | h
  · have h14 := h.1
    have bS := h.2.1.S
    have e6 := h.2.2.1.1 6 (by omega)
    intro _
    refine k_open h (fun _ _ => ⟨fun _ => ⟨fun c => s_firstWrong h (fun r hr _ _ => s_granted (fun _ _ _ _ => ?_)), fun c => s_refused (fun _ _ _ _ => ?_)⟩, fun z => absurd z (by decide)⟩)
    · intro _
      refine s_good (fun _ _ => ⟨fun _ => ⟨fun _ _ _ => ⟨fun _ => r_firstWrong (iOpen_m h 0) (m_263 μ 0) (fun s hs _ _ _ _ => ⟨isFw_u hr hs, hK 0 (by decide)⟩), fun z => absurd rfl z⟩, fun z => absurd (show μ 263 6 = 0 from z) (by omega)⟩, fun z => absurd (h14.symm.trans z) (by decide)⟩)
    · intro _
      refine s_good (fun _ _ => ⟨fun _ => ⟨fun z => absurd (show μ 263 6 = 0 by omega) z, fun _ _ _ => ⟨fun z => absurd z (by decide), fun _ => s_no (fun _ _ _ _ => ⟨rfl, K_no (hK 6 (by decide))⟩)⟩⟩, fun z => absurd (h14.symm.trans z) (by decide)⟩)
  · have h14 := h.1
    intro _
    refine k_shut h (fun _ _ => ⟨fun z => absurd z (by decide), fun _ => s_refused (fun _ _ _ _ => ?_)⟩)
    intro _
    exact s_good (fun _ _ => ⟨fun z => absurd h14 z, fun _ _ _ => ⟨fun z => absurd z (by decide), fun _ => s_no (fun _ _ _ _ => ⟨rfl, K_no (hK 1 (by decide))⟩)⟩⟩)
/-! feed: twenty bytes -/
def byt (x : Int) (q : Nat) : Int := xAnd (xShr x (24 - 8 * (q : Int))) 255
theorem u32and (a b : UInt32) : (a &&& b).toNat = a.toNat &&& b.toNat := UInt32.toNat_and a b
theorem byt_rng (x : Int) (q : Nat) : 0 ≤ byt x q ∧ byt x q ≤ 255 := by
  unfold byt
  have : ∀ z : Int32, 0 ≤ (z &&& 255).toInt ∧ (z &&& 255).toInt ≤ 255 := by
    intro z
    have h : (z &&& 255).toBitVec = z.toBitVec &&& 255#32 := rfl
    have h2 : (z &&& 255).toInt = (z.toBitVec &&& 255#32).toInt := rfl
    have h3 : (z.toBitVec &&& 255#32).toNat ≤ 255 := by
      rw [BitVec.toNat_and]; exact Nat.and_le_right
    rw [h2, BitVec.toInt_eq_toNat_of_lt (by omega)]
    omega
  exact this _
theorem b255 : ∀ i : Fin 32, 8 ≤ i.val → (255#32).getLsbD i.val = false := by decide
theorem byt_u (x : Int) (q : Nat) (hq : q < 4) : xAnd (xUshr x (24 - 8 * (q : Int))) 255 = byt x q := by
  have key : ∀ (b : BitVec 32) (s : Nat), s ≤ 24 → (b >>> s) &&& 255#32 = (b.sshiftRight s) &&& 255#32 := by
    intro b s hs
    ext i hi
    simp only [BitVec.getElem_and, BitVec.getElem_ushiftRight, BitVec.getElem_sshiftRight]
    by_cases h8 : i < 8
    · have : s + i < 32 := by omega
      simp [this, BitVec.getLsbD_eq_getElem this]
    · have e : (255#32)[i] = false := by
        rw [← BitVec.getLsbD_eq_getElem hi]
        exact b255 ⟨i, hi⟩ (show 8 ≤ i by omega)
      rw [e]; simp
  unfold byt xAnd xUshr xShr
  congr 1
  rw [Int32.ofInt_toInt, Int32.ofInt_toInt]
  apply Int32.toBitVec_inj.1
  rcases (show q = 0 ∨ q = 1 ∨ q = 2 ∨ q = 3 by omega) with rfl | rfl | rfl | rfl
  · exact key (Int32.ofInt x).toBitVec 24 (by omega)
  · exact key (Int32.ofInt x).toBitVec 16 (by omega)
  · exact key (Int32.ofInt x).toBitVec 8 (by omega)
  · exact key (Int32.ofInt x).toBitVec 0 (by omega)
def fdM (μ : xM) (k c f : Nat) (n : Int) (g : Nat → Int) (m : Nat) : xM := fun a j => if a = k ∧ n ≤ j ∧ (j : Int) < n + m then g (j - n.toNat) else if a = c ∧ j = f then n + m else μ a j
theorem fdM_succ {μ : xM} {k c f : Nat} {n : Int} {g : Nat → Int} {m : Nat} (hk : k ≠ c) (hn : 0 ≤ n) : wi (wi (fdM μ k c f n g m) k (n + m).toNat (g m)) c f (n + m + 1) = fdM μ k c f n g (m + 1) := by
  funext a j
  simp only [wi, fdM]
  by_cases e1 : a = c ∧ j = f
  · rw [if_pos e1, if_neg (by omega), if_pos e1]; omega
  · rw [if_neg e1]
    by_cases e2 : a = k
    · by_cases e3 : j = (n + m).toNat
      · rw [if_pos ⟨e2, e3⟩, if_pos (by omega)]; congr 1; omega
      · rw [if_neg (by omega)]
        by_cases e4 : n ≤ j ∧ (j : Int) < n + m
        · rw [if_pos ⟨e2, e4⟩, if_pos (by omega)]
        · rw [if_neg (by omega), if_neg e1, if_neg (by omega), if_neg e1]
    · rw [if_neg (by omega), if_neg (by omega), if_neg e1, if_neg (by omega), if_neg e1]
theorem fdM_zero {μ : xM} {k c f : Nat} {n : Int} {g : Nat → Int} (h : μ c f = n) : fdM μ k c f n g 0 = μ := by
  funext a j
  simp only [fdM]
  rw [if_neg (by omega)]
  split
  · rename_i e; rw [e.1, e.2, h]; omega
  · rfl
theorem s_four {μ : xM} {p n : Int} {g : Nat → Int} {m : Nat} {Q : xM → Prop} (hn : 0 ≤ n) (hm : n + m + 4 ≤ 900) (hg : ∀ q, q < 4 → g (m + q) = byt p q) (hq : Q (fdM μ 36 35 0 n g (m + 4))) : tX5_appendFour p (fdM μ 36 35 0 n g m) Q := by
  intro _ _
  refine ⟨fun k s ν => ∃ q : Nat, q ≤ 4 ∧ s = 24 - 8 * (q : Int) ∧ ν = fdM μ 36 35 0 n g (m + q) ∧ k = 4 - q, ⟨4, 0, by omega, by omega, rfl, by omega⟩, ?_⟩
  rintro k s ν ⟨q, q4, rfl, rfl, rfl⟩ _
  have e : fdM μ 36 35 0 n g (m + q) 35 0 = n + (m + q : Nat) := by simp [fdM]
  rw [e]
  refine ⟨⟨by omega, by omega⟩, fun c => ?_, fun c => ⟨fun z => by omega, fun _ => ⟨⟨by omega, by omega⟩, wl fun _ => ?_⟩⟩⟩
  · rw [show q = 4 by omega]; exact hq
  · have e2 : wi (fdM μ 36 35 0 n g (m + q)) 36 (n + (m + q : Nat)).toNat (xAnd (xUshr p (24 - 8 * (q : Int))) 255) 35 0 = n + (m + q : Nat) := by rw [wi_cell (by omega), e]
    rw [e2]
    refine ⟨⟨by omega, by omega⟩, wl fun _ => ⟨4 - (q + 1), by omega, q + 1, by omega, by omega, ?_, rfl⟩⟩
    rw [byt_u p q (by omega), ← hg q (by omega), fdM_succ (by omega) hn]
    rfl
theorem c_0 {sc : Int → Int} {i : Int} {μ : xM} (hi : Inv μ) : tl_0 sc i μ Inv := by
  obtain ⟨a, ea⟩ : ∃ w, w = sc (i + 1) := ⟨_, rfl⟩
  obtain ⟨b, eb⟩ : ∃ w, w = sc (i + 2) := ⟨_, rfl⟩
  obtain ⟨c, ec⟩ : ∃ w, w = sc (i + 3) := ⟨_, rfl⟩
  obtain ⟨d, ed⟩ : ∃ w, w = sc (i + 4) := ⟨_, rfl⟩
  obtain ⟨e, ee⟩ : ∃ w, w = sc (i + 5) := ⟨_, rfl⟩
  unfold tl_0
  rw [← ea, ← eb, ← ec, ← ed, ← ee]
  obtain ⟨t1, t2, t3, t4⟩ := hi.1
  obtain ⟨n, hn⟩ : ∃ n, n = μ 35 0 := ⟨_, rfl⟩
  have n0 : 0 ≤ n := by omega
  obtain ⟨g, hg⟩ : ∃ g : Nat → Int, g = fun k => byt (if k < 4 then a else if k < 8 then b else if k < 12 then c else if k < 16 then d else e) (k % 4) := ⟨_, rfl⟩
  intro _ _ _ _ _ _ _ _ _ _ _ _
  rw [← hn]
  refine ⟨⟨by omega, by omega⟩, fun q => ?_, fun q _ _ _ _ => ?_⟩
  · have gq : ∀ m x : Nat, ∀ p, x < 4 → m + 4 ≤ 20 → m % 4 = 0 → p = (if m < 4 then a else if m < 8 then b else if m < 12 then c else if m < 16 then d else e) → g (m + x) = byt p x := by
      intro m x p hx hm h4 hp
      rw [hg]
      show byt _ ((m + x) % 4) = _
      rw [show (m + x) % 4 = x by omega, hp]
      rcases (show m = 0 ∨ m = 4 ∨ m = 8 ∨ m = 12 ∨ m = 16 by omega) with rfl | rfl | rfl | rfl | rfl
      · rw [if_pos (show 0 + x < 4 by omega)]; rfl
      · rw [if_neg (show ¬ 4 + x < 4 by omega), if_pos (show 4 + x < 8 by omega)]; rfl
      · rw [if_neg (show ¬ 8 + x < 4 by omega), if_neg (show ¬ 8 + x < 8 by omega), if_pos (show 8 + x < 12 by omega)]; rfl
      · rw [if_neg (show ¬ 12 + x < 4 by omega), if_neg (show ¬ 12 + x < 8 by omega), if_neg (show ¬ 12 + x < 12 by omega), if_pos (show 12 + x < 16 by omega)]; rfl
      · rw [if_neg (show ¬ 16 + x < 4 by omega), if_neg (show ¬ 16 + x < 8 by omega), if_neg (show ¬ 16 + x < 12 by omega), if_neg (show ¬ 16 + x < 16 by omega)]; rfl
    have z : fdM μ 36 35 0 n g 0 = μ := fdM_zero hn.symm
    conv => arg 2; rw [← z]
    refine s_four n0 (by omega) (fun x hx => gq 0 x a hx (by omega) rfl rfl) (fun _ => ?_)
    refine s_four n0 (by omega) (fun x hx => gq 4 x b hx (by omega) rfl rfl) (fun _ => ?_)
    refine s_four n0 (by omega) (fun x hx => gq 8 x c hx (by omega) rfl rfl) (fun _ => ?_)
    refine s_four n0 (by omega) (fun x hx => gq 12 x d hx (by omega) rfl rfl) (fun _ => ?_)
    refine s_four n0 (by omega) (fun x hx => gq 16 x e hx (by omega) rfl rfl) (fun _ _ _ _ _ => ?_)
    obtain ⟨B, hB⟩ : ∃ B, B = wi (fdM μ 36 35 0 n g (16 + 4)) 260 0 0 := ⟨_, rfl⟩
    intro _ _ _ _ _ _
    refine wl fun _ => ?_
    rw [← hB]
    have b2 : B 260 2 = n := by rw [hB]; show μ 260 2 = n; omega
    have bo : ∀ k j, k ≠ 35 → k ≠ 36 → ¬ (k = 260 ∧ j = 0) → B k j = μ k j := by
      intro k j q1 q2 q3
      rw [hB]
      simp only [wi, fdM]
      rw [if_neg q3, if_neg (by omega), if_neg (by omega)]
    rw [b2]
    refine ⟨⟨by omega, by omega⟩, fun _ => ?_, fun z => by omega⟩
    refine up1 (n := 20) (fun k ν => ν = fdM B 261 260 2 n g k.toNat) (by omega) (fdM_zero b2).symm ?_
    rintro k ν K k0 k1 rfl _ hK
    have e2 : fdM B 261 260 2 n g k.toNat 260 2 = n + k := by simp [fdM]; omega
    have body : ∀ p, k < 20 → g k.toNat = byt p (k.toNat % 4) → tX11_feed_b76 a b c d e k p (fdM B 261 260 2 n g k.toNat) (fun r' ν => (xIn r') → xRan ν → ((fdM μ 36 35 0 n g (16 + 4) 35 0 = r') ∧ (Inv ν))) K := by
      intro p hk hp _
      rw [e2]
      refine ⟨⟨by omega, by omega⟩, ⟨by omega, by omega⟩, wl fun _ => ?_⟩
      have e3 : wi (fdM B 261 260 2 n g k.toNat) 261 (n + k).toNat (xAnd (xShr p (24 - 8 * k.tmod 4)) 255) 260 2 = n + k := by rw [wi_cell (by omega), e2]
      rw [e3]
      refine ⟨⟨by omega, by omega⟩, wl fun _ => hK _ (by omega) ?_⟩
      have e4 : k.tmod 4 = ((k.toNat % 4 : Nat) : Int) := by rw [Int.tmod_eq_emod_of_nonneg k0]; omega
      have e5 : xAnd (xShr p (24 - 8 * k.tmod 4)) 255 = g k.toNat := by rw [hp, e4]; rfl
      rw [e5]
      have := fdM_succ (μ := B) (k := 261) (c := 260) (f := 2) (n := n) (g := g) (m := k.toNat) (by omega) n0
      rw [Int.toNat_of_nonneg k0] at this
      rw [this, show (k + 1).toNat = k.toNat + 1 by omega]
    have gk : ∀ p, p = (if k.toNat < 4 then a else if k.toNat < 8 then b else if k.toNat < 12 then c else if k.toNat < 16 then d else e) → g k.toNat = byt p (k.toNat % 4) := fun p hp => by rw [hg, hp]
    refine ⟨⟨by omega, by omega⟩, fun z _ _ => ⟨?_, ?_⟩, fun z => ⟨fun y4 => ⟨fun y8 => ⟨fun y12 => ⟨fun y16 => body _ (by omega) (gk _ ?_), fun y16 => body _ (by omega) (gk _ ?_)⟩, fun y12 => body _ (by omega) (gk _ ?_)⟩, fun y8 => body _ (by omega) (gk _ ?_)⟩, fun y4 => body _ (by omega) (gk _ ?_)⟩⟩
    · rw [e2, show k = 20 by omega]; simp [fdM]
    · rw [show k.toNat = 20 by omega]
      have row : ∀ k j, k ≠ 35 → k ≠ 36 → k ≠ 261 → ¬ (k = 260 ∧ j = 0) → ¬ (k = 260 ∧ j = 2) → fdM B 261 260 2 n g 20 k j = μ k j := by
        intro k j q1 q2 q3 q4 q5
        simp only [fdM]
        rw [if_neg (by omega), if_neg q5, bo k j q1 q2 q4]
      have rr : ∀ k, k ≠ 35 → k ≠ 36 → k ≠ 261 → k ≠ 260 → fdM B 261 260 2 n g 20 k = μ k := fun k q1 q2 q3 q4 => by funext j; exact row k j q1 q2 q3 (by omega) (by omega)
      have c35 : ∀ j, fdM B 261 260 2 n g 20 35 j = if j = 0 then n + 20 else μ 35 j := by
        intro j
        simp only [fdM]
        rw [if_neg (by omega), if_neg (by omega), hB]
        simp only [wi, fdM]
        rw [if_neg (by omega), if_neg (by omega)]
        by_cases q : j = 0
        · rw [if_pos ⟨trivial, q⟩, if_pos q]; rfl
        · rw [if_neg (fun z => q z.2), if_neg q]
      refine ⟨⟨?_, ?_, ?_, ?_⟩, ⟨?_, ?_, ?_⟩, iBase_c (fun k hk => rr k (by omega) (by omega) (by omega) (by omega)) (row 236 5 (by omega) (by omega) (by omega) (by omega) (by omega)) (row 236 6 (by omega) (by omega) (by omega) (by omega) (by omega)) hi.2.2.1, ?_⟩
      · rw [c35]; simp [fdM]
      · simp [fdM]; omega
      · simp [fdM]; omega
      · intro i hi5
        have hi6 : (i : Int) < n + 20 := by simpa [fdM] using hi5
        have x36 : fdM B 261 260 2 n g 20 36 i = if n ≤ i ∧ (i : Int) < n + 20 then g (i - n.toNat) else μ 36 i := by
          simp only [fdM]
          rw [if_neg (by omega), if_neg (by omega), hB]
          simp only [wi, fdM]
          rw [if_neg (by omega)]
          by_cases q : n ≤ i ∧ (i : Int) < n + 20
          · rw [if_pos ⟨trivial, q⟩, if_pos q]
          · rw [if_neg (fun z => q z.2), if_neg (by omega), if_neg q]
        have x61 : fdM B 261 260 2 n g 20 261 i = if n ≤ i ∧ (i : Int) < n + 20 then g (i - n.toNat) else μ 261 i := by
          simp only [fdM]
          by_cases q : n ≤ i ∧ (i : Int) < n + 20
          · rw [if_pos ⟨trivial, q⟩, if_pos q]
          · rw [if_neg (fun z => q z.2), if_neg (by omega), if_neg q, bo 261 i (by omega) (by omega) (by omega)]
        rw [x36, x61]
        by_cases q : n ≤ i ∧ (i : Int) < n + 20
        · rw [if_pos q, if_pos q]
          rw [hg]
          exact ⟨rfl, byt_rng _ _⟩
        · rw [if_neg q, if_neg q]
          exact t4 i (by omega)
      · rw [c35 1, row 260 9 (by omega) (by omega) (by omega) (by omega) (by omega)]; exact hi.2.1.1
      · rw [row 0 18 (by omega) (by omega) (by omega) (by omega) (by omega), row 260 11 (by omega) (by omega) (by omega) (by omega) (by omega)]; exact hi.2.1.2.1
      · rw [c35 2, row 260 10 (by omega) (by omega) (by omega) (by omega) (by omega), row 260 11 (by omega) (by omega) (by omega) (by omega) (by omega)]; exact hi.2.1.2.2
      · rcases hi.2.2.2 with q | q
        · left
          obtain ⟨⟨o1, o2, o3, o4, o5⟩, oc⟩ := q
          refine ⟨⟨(row 260 14 (by omega) (by omega) (by omega) (by omega) (by omega)).trans o1, ?_, ?_, ?_, iGrow_c (fun k _ _ => rr k (by omega) (by omega) (by omega) (by omega)) (fun k _ _ => rr k (by omega) (by omega) (by omega) (by omega)) (rr _ (by omega) (by omega) (by omega) (by omega)) o5⟩, iCache_c (fun k hk => rr k (by omega) (by omega) (by omega) (by omega)) oc⟩
          · rw [rr 263 (by omega) (by omega) (by omega) (by omega)]; exact o2
          · unfold iHouse at *
            rw [rr 39 (by omega) (by omega) (by omega) (by omega), rr 40 (by omega) (by omega) (by omega) (by omega), rr 41 (by omega) (by omega) (by omega) (by omega), rr 68 (by omega) (by omega) (by omega) (by omega), rr 263 (by omega) (by omega) (by omega) (by omega), rr 67 (by omega) (by omega) (by omega) (by omega), rr 69 (by omega) (by omega) (by omega) (by omega), rr 70 (by omega) (by omega) (by omega) (by omega), rr 71 (by omega) (by omega) (by omega) (by omega), rr 72 (by omega) (by omega) (by omega) (by omega)]
            refine ⟨o3.1, fun w hw h2 => ?_, o3.2.2⟩
            rw [rr (43 + w) (by omega) (by omega) (by omega) (by omega)]
            exact o3.2.1 w hw h2
          · exact nights_keep o4 (iNight_c (rr _ (by omega) (by omega) (by omega) (by omega)) (rr _ (by omega) (by omega) (by omega) (by omega)) (rr _ (by omega) (by omega) (by omega) (by omega)) (rr _ (by omega) (by omega) (by omega) (by omega)) o4.1) (row 0 17 (by omega) (by omega) (by omega) (by omega) (by omega)) (row 260 19 (by omega) (by omega) (by omega) (by omega) (by omega)) (fun k _ _ => rr k (by omega) (by omega) (by omega) (by omega)) (rr _ (by omega) (by omega) (by omega) (by omega)) (rr _ (by omega) (by omega) (by omega) (by omega))
        · right
          unfold iShut at *
          rw [row 0 17 (by omega) (by omega) (by omega) (by omega) (by omega), row 260 19 (by omega) (by omega) (by omega) (by omega) (by omega), row 260 14 (by omega) (by omega) (by omega) (by omega) (by omega), rr 39 (by omega) (by omega) (by omega) (by omega), rr 263 (by omega) (by omega) (by omega) (by omega), rr 249 (by omega) (by omega) (by omega) (by omega), rr 67 (by omega) (by omega) (by omega) (by omega)]
          exact q
    · rw [if_neg (by omega), if_neg (by omega), if_neg (by omega), if_neg (by omega)]
    · rw [if_neg (by omega), if_neg (by omega), if_neg (by omega), if_pos (by omega)]
    · rw [if_neg (by omega), if_neg (by omega), if_pos (by omega)]
    · rw [if_neg (by omega), if_pos (by omega)]
    · rw [if_pos (by omega)]
  · intro _ _ _ _ _ _
    refine wl fun _ => ?_
    have b2 : wi μ 260 0 0 260 2 = n := by show μ 260 2 = n; omega
    rw [b2]
    exact ⟨⟨by omega, by omega⟩, fun z => by omega, fun _ _ _ => ⟨rfl, Inv_th hi⟩⟩
