/-! hopes: numbers -/
theorem mul_bd {a b A B : Int} (ha : 0 ≤ a) (hA : a ≤ A) (hb : 0 ≤ b) (hB : b ≤ B) : 0 ≤ a * b ∧ a * b ≤ A * B := ⟨Int.mul_nonneg ha hb, Int.mul_le_mul hA hB hb (Int.le_trans ha hA)⟩
theorem wsum_rng {R : Nat → Int} (hR : okR R) : ∀ n : Nat, (n : Int) ≤ R 5 → (n : Int) ≤ wsum R n ∧ wsum R n ≤ 9 * n := by
  intro n
  induction n with
  | zero => intro _; simp [wsum]
  | succ n ih =>
    intro hn
    have q := hR.lik (i := n) (by omega)
    have := ih (by omega)
    simp only [wsum]
    omega
theorem wW {R : Nat → Int} (hR : okR R) : 0 ≤ wsum R (R 5).toNat ∧ wsum R (R 5).toNat ≤ 54 ∧ (1 ≤ R 5 → 1 ≤ wsum R (R 5).toNat) := by
  have k := hR.K
  have := wsum_rng hR (R 5).toNat (by omega)
  omega
theorem wpow_rng {R : Nat → Int} (hR : okR R) : ∀ k : Nat, 0 ≤ wpow R k ∧ wpow R k ≤ (54 : Int) ^ k := by
  have w := wW hR
  intro k
  induction k with
  | zero => simp [wpow]
  | succ k ih =>
    have := mul_bd ih.1 ih.2 w.1 w.2.1
    simp only [wpow]
    rw [Int.pow_succ]
    exact this
theorem wpow_3 {R : Nat → Int} (hR : okR R) {k : Nat} (hk : k ≤ 3) : 0 ≤ wpow R k ∧ wpow R k ≤ 157464 := by
  have q := wpow_rng hR k
  have : ∀ j : Fin 4, (54 : Int) ^ j.val ≤ 157464 := by decide
  have := this ⟨k, by omega⟩
  simp only at this
  omega
theorem wpow_4 {R : Nat → Int} (hR : okR R) {k : Nat} (hk : k ≤ 4) : 0 ≤ wpow R k ∧ wpow R k ≤ 8503056 := by
  have q := wpow_rng hR k
  have : ∀ j : Fin 5, (54 : Int) ^ j.val ≤ 8503056 := by decide
  have := this ⟨k, by omega⟩
  simp only at this
  omega
theorem wpow_pos {R : Nat → Int} (hR : okR R) (h5 : 1 ≤ R 5) : ∀ k : Nat, 0 < wpow R k := by
  intro k
  induction k with
  | zero => simp [wpow]
  | succ k ih =>
    simp only [wpow]
    exact Int.mul_pos ih (by have := (wW hR).2.2 h5; omega)
theorem hsum_rng {R : Nat → Int} (hR : okR R) {p M : Int} {f : Nat → Nat → Nat → Int} {a b c : Nat} (h : ∀ x, 0 ≤ seatF R x p f a b c ∧ seatF R x p f a b c ≤ M) : ∀ i : Nat, (i : Int) ≤ R 5 → 0 ≤ hsum R p f a b c i ∧ hsum R p f a b c i ≤ wsum R i * M := by
  intro i
  induction i with
  | zero => intro _; simp [hsum, wsum]
  | succ i ih =>
    intro hi
    have q := hR.lik (i := i) (by omega)
    have q2 := h (R (303 + i))
    have q3 := ih (by omega)
    have q4 := mul_bd (show 0 ≤ R (309 + i) by omega) (Int.le_refl _) q2.1 q2.2
    simp only [hsum, wsum]
    rw [Int.add_mul]
    omega
theorem seatF_M {R : Nat → Int} {x p M : Int} {f : Nat → Nat → Nat → Int} {a b c : Nat} (hf : ∀ a b c, 0 ≤ f a b c ∧ f a b c ≤ M) (hp : 0 ≤ p) : 0 ≤ seatF R x p f a b c ∧ seatF R x p f a b c ≤ M + p := by
  refine ⟨Int.le_trans (hf a b c).1 seatF_ge, ?_⟩
  rw [seatF_le]
  refine ⟨by have := (hf a b c).2; omega, fun v _ => by have := (hf v b c).2; omega, fun _ v _ => by have := (hf a v c).2; omega, fun _ v _ => by have := (hf a b v).2; omega⟩
theorem hopeF_rng {R : Nat → Int} (hR : okR R) : ∀ (k a b c : Nat), 0 ≤ hopeF R k a b c ∧ hopeF R k a b c ≤ (k : Int) * wpow R k := by
  intro k
  induction k with
  | zero => intro a b c; simp [hopeF]
  | succ k ih =>
    intro a b c
    have bK := hR.K
    have w := wpow_rng hR k
    have s := fun x => seatF_M (R := R) (x := x) (a := a) (b := b) (c := c) ih w.1
    have q := hsum_rng hR s (R 5).toNat (by omega)
    refine ⟨q.1, Int.le_trans q.2 (Int.le_of_eq ?_)⟩
    show wsum R (R 5).toNat * ((k : Int) * wpow R k + wpow R k) = ((k + 1 : Nat) : Int) * (wpow R k * wsum R (R 5).toNat)
    rw [Int.mul_comm, Int.add_mul, Int.mul_assoc, show ((k + 1 : Nat) : Int) = (k : Int) + 1 by omega, Int.add_mul, Int.one_mul]
theorem hope_3 {R : Nat → Int} (hR : okR R) {k : Nat} (hk : k ≤ 3) (a b c : Nat) : 0 ≤ hopeF R k a b c ∧ hopeF R k a b c ≤ 472392 := by
  have q := hopeF_rng hR k a b c
  have w := wpow_3 hR hk
  have m := mul_bd (show (0 : Int) ≤ k by omega) (show (k : Int) ≤ 3 by omega) w.1 w.2
  omega
theorem hope_4 {R : Nat → Int} (hR : okR R) {k : Nat} (hk : k ≤ 4) (a b c : Nat) : 0 ≤ hopeF R k a b c ∧ hopeF R k a b c ≤ 34012224 := by
  have q := hopeF_rng hR k a b c
  have w := wpow_4 hR hk
  have m := mul_bd (show (0 : Int) ≤ k by omega) (show (k : Int) ≤ 4 by omega) w.1 w.2
  omega
theorem hseat_3 {R : Nat → Int} (hR : okR R) {k : Nat} (hk : k ≤ 3) (x : Int) (a b c : Nat) : 0 ≤ seatF R x (wpow R k) (hopeF R k) a b c ∧ seatF R x (wpow R k) (hopeF R k) a b c ≤ 629856 := by
  have w := wpow_3 hR hk
  have := seatF_M (R := R) (x := x) (a := a) (b := b) (c := c) (hope_3 hR hk) w.1
  omega
theorem hsum_3 {R : Nat → Int} (hR : okR R) {k : Nat} (hk : k ≤ 3) (a b c : Nat) (i : Nat) (hi : (i : Int) ≤ R 5) : 0 ≤ hsum R (wpow R k) (hopeF R k) a b c i ∧ hsum R (wpow R k) (hopeF R k) a b c i ≤ 34012224 := by
  have q := hsum_rng hR (fun x => hseat_3 hR hk x a b c) i hi
  have bK := hR.K
  have w := wsum_rng hR i hi
  omega
/-! the class's hopes -/
theorem s_weightOf {μ : xM} {k : Nat} {Q : Int → xM → Prop} (h : iOpW μ) (hk : k ≤ 4) (hq : Q (wpow (μ 263) k) μ) : tX0_weightOf k μ Q := by
  have hR := h.2.1
  have bK := hR.K
  have e5 : μ 39 5 = μ 263 5 := h.2.2.1.1 5 (by omega)
  intro _ _
  refine rd2b (n := μ 263 5) (fun i b => b = wsum (μ 263) i.toNat) (by omega) rfl ?_
  rintro i b K i0 i1 rfl hK
  have ws := wsum_rng hR i.toNat (by omega)
  rw [e5]
  refine ⟨⟨by omega, by omega⟩, fun d => ?_, fun d => w_weight h i0 (by omega) (fun _ _ => hK _ (by omega) ?_)⟩
  · rw [show i.toNat = (μ 263 5).toNat by omega]
    refine rd2b (n := (k : Int)) (fun j b => b = wpow (μ 263) j.toNat) (by omega) rfl ?_
    rintro j b K2 j0 j1 rfl hK2
    have wp := wpow_4 hR (k := j.toNat) (by omega)
    have fin : ¬ j < k → xIn (wpow (μ 263) j.toNat) ∧ Q (wpow (μ 263) j.toNat) μ := fun z => ⟨⟨by omega, by omega⟩, by rw [show j.toNat = k by omega]; exact hq⟩
    refine ⟨⟨by omega, by omega⟩, fun d2 => fin (by omega), fun d2 => ⟨fun d3 => fin (by omega), fun d3 => hK2 _ (by omega) ?_⟩⟩
    rw [show (j + 1).toNat = j.toNat + 1 by omega]; rfl
  · rw [show (i + 1).toNat = i.toNat + 1 by omega]; rfl
def hopS (μ ν : xM) : Prop := (∀ k, k ≠ 232 → k ≠ 234 → ν k = μ k) ∧ (∀ j, j ≠ 5 → ν 232 j = μ 232 j) ∧ (ν 232 5 = 0 → ν 234 = μ 234 ∧ μ 232 5 = 0) ∧ iHop ν
theorem hopS.rf {μ : xM} (h : iHop μ) : hopS μ μ := ⟨fun _ _ _ => rfl, fun _ _ => rfl, fun z => ⟨rfl, z⟩, h⟩
theorem hopS.tt {μ ν ω : xM} (h : hopS μ ν) (h2 : hopS ν ω) : hopS μ ω := ⟨fun k a b => (h2.1 k a b).trans (h.1 k a b), fun j hj => (h2.2.1 j hj).trans (h.2.1 j hj), fun z => ⟨((h2.2.2.1 z).1).trans (h.2.2.1 (h2.2.2.1 z).2).1, (h.2.2.1 (h2.2.2.1 z).2).2⟩, h2.2.2.2⟩
theorem hopS.a {μ ν : xM} (h : hopS μ ν) : asame μ ν := by
  intro k j hn
  by_cases q : k = 232
  · subst q; exact absurd hn (by simp [ascr, cscr])
  · by_cases q2 : k = 234
    · subst q2; exact absurd hn (by simp [ascr, cscr])
    · rw [h.1 k q q2]
theorem s_hopedSeated {F : Int → Int → Int → Int → xM → (Int → xM → Prop) → Prop} {f : Nat → Nat → Nat → Int} {μ : xM} {p x : Int} {k w o t : Nat} {Q : Int → xM → Prop} (h : iOpW μ) (hs : iHop μ) (hp : p = k + 1) (hk : k ≤ 3) (hw : w ≤ 24)
    (hf : ∀ a b c, 0 ≤ f a b c ∧ f a b c ≤ 472392)
    (ih : ∀ (v : Nat) (ν : xM) (Q : Int → xM → Prop), v < 24 → iOpW ν → iHop ν → ν 263 = μ 263 → (∀ ω, hopS ν ω → Q (f v o t) ω) → F k v o t ν Q)
    (hq : ∀ ν, hopS μ ν → Q (mxB (fun v => wpow (μ 263) k + f v o t) (upsBy (μ 263) w x) 0) ν) : tX0_hopedSeated F p x w o t μ Q := by
  have hR := h.2.1
  have wp := wpow_3 hR hk
  have ql := upsF_len (R := μ 263) (w := w)
  intro _ _ _ _ _ _
  refine up2b (n := ((upsF (μ 263) w).length : Int)) (fun i m ν => hopS μ ν ∧ m = mxB (fun v => wpow (μ 263) k + f v o t) (((upsF (μ 263) w).take i.toNat).filter (fun v => decide (byF (μ 263) w v = x))) 0) (by omega) ⟨hopS.rf hs, rfl⟩ ?_
  rintro i m ν K i0 i1 ⟨f1, rfl⟩ _ hK
  have hO : iOpW ν := iOpW_a f1.a h
  have e3 : ν 263 = μ 263 := f1.1 263 (by omega) (by omega)
  have mr : 0 ≤ mxB (fun v => wpow (μ 263) k + f v o t) (((upsF (μ 263) w).take i.toNat).filter (fun v => decide (byF (μ 263) w v = x))) 0 ∧ mxB (fun v => wpow (μ 263) k + f v o t) (((upsF (μ 263) w).take i.toNat).filter (fun v => decide (byF (μ 263) w v = x))) 0 ≤ 629856 := by
    refine ⟨((mxB_le _ _).1 (Int.le_refl _)).1, (mxB_le _ _).2 ⟨by omega, fun v _ => by have := (hf v o t).2; omega⟩⟩
  have q := (hO.2.2.2.2.2.2.1 w (by omega)).1
  rw [e3] at q
  refine s_ups (by omega) (by omega) (fun _ _ => ?_)
  rw [Int.toNat_natCast, q]
  refine ⟨⟨by omega, by omega⟩, fun c => ⟨⟨by omega, by omega⟩, ?_⟩, fun c => ?_⟩
  · rw [List.take_of_length_le (by omega)]; exact hq ν f1
  · have hi : i.toNat < (upsF (μ 263) w).length := by omega
    have u := hO.up (w := w) (by omega) (show i.toNat < (upsF (ν 263) w).length by rw [e3]; exact hi)
    simp only [e3] at u
    have et : (upsF (μ 263) w).take (i + 1).toNat = (upsF (μ 263) w).take i.toNat ++ [(upsF (μ 263) w)[i.toNat]] := by
      rw [show (i + 1).toNat = i.toNat + 1 by omega]; exact (List.take_append_getElem hi).symm
    refine s_byOf (by omega) (by omega) i0 (by omega) (fun _ _ => ?_)
    rw [Int.toNat_natCast, u.2.1]
    refine ⟨fun z => hK _ _ (by omega) ⟨f1, ?_⟩, fun z => ⟨⟨by omega, by omega⟩, ?_⟩⟩
    · rw [et, List.filter_append]; simp [z]
    · rw [show p - 1 = (k : Int) by omega]
      refine s_weightOf hO (by omega) (fun _ _ => s_upOf (by omega) (by omega) i0 (by omega) (fun _ _ => ?_))
      rw [Int.toNat_natCast, u.1]
      refine ih _ ν _ u.2.2.1 hO f1.2.2.2 e3 (fun ω f2 _ _ => ⟨⟨by omega, by omega⟩, ?_, hK _ _ (by omega) ⟨f1.tt f2, ?_⟩⟩)
      · have := hf (upsF (μ 263) w)[i.toNat] o t
        have ewp : wpow (ν 263) k = wpow (μ 263) k := by rw [e3]
        rw [ewp]
        exact ⟨by omega, by omega⟩
      · rw [et, List.filter_append]
        have : [(upsF (μ 263) w)[i.toNat]].filter (fun v => decide (byF (μ 263) w v = x)) = [(upsF (μ 263) w)[i.toNat]] := by simp [z]
        have ewp : wpow (ν 263) k = wpow (μ 263) k := by rw [e3]
        rw [this, mxB_snoc, ewp]
theorem s_hoped : ∀ (k fuel : Nat), k < fuel → k ≤ 4 → ∀ (a b c : Nat) (μ : xM) (Q : Int → xM → Prop), iOpW μ → iHop μ → a ≤ 24 → b ≤ 24 → c ≤ 24 → vtF (μ 263) b c → (∀ ν, hopS μ ν → Q (hopeF (μ 263) k a b c) ν) → tX0_hoped fuel k a b c μ Q := by
  intro k
  induction k with
  | zero =>
    intro fuel hf _ a b c μ Q h hs ha hb hc hv hq
    obtain ⟨m, rfl⟩ : ∃ m, fuel = m + 1 := ⟨fuel - 1, by omega⟩
    intro _ _ _ _ _
    exact ⟨fun _ => hq μ (hopS.rf hs), fun z => absurd (show ((0 : Nat) : Int) < 1 by decide) z⟩
  | succ k ihn =>
    intro fuel hf hk4 a b c μ Q h hs ha hb hc hv hq
    obtain ⟨m, rfl⟩ : ∃ m, fuel = m + 1 := ⟨fuel - 1, by omega⟩
    have hk : k ≤ 3 := by omega
    have hR := h.2.1
    have bT := hR.T
    have bK := hR.K
    have e0 : ∀ ν, iOpW ν → ν 263 = μ 263 → ν 39 0 = μ 263 0 := fun ν o e => by rw [o.2.2.1.1 0 (by omega), e]
    have e5 : ∀ ν, iOpW ν → ν 263 = μ 263 → ν 39 5 = μ 263 5 := fun ν o e => by rw [o.2.2.1.1 5 (by omega), e]
    obtain ⟨lo, mid, hi, s1, s2, s3, el, eh, em, vs, sf⟩ := srt_ex hR ha hb hc hv
    have fs := sf (hopeF (μ 263) (k + 1)) (fun z => hope_12 z _) (fun z => hope_23 z _)
    rw [← fs] at hq
    have wp := wpow_3 hR hk
    have fb := hope_3 hR hk
    have h4 := hope_4 hR hk4 lo mid hi
    have sl := slotN_lt s1 s2 s3
    have pk1 : ((k + 1 : Nat) : Int) - 1 = k := by omega
    have es : ((k : Int) * 2925 + (slotN lo mid hi : Int)).toNat = 2925 * k + slotN lo mid hi := by omega
    intro _ _ _ _ _
    rw [em, el, eh, pk1]
    refine ⟨fun z => by omega, fun _ => ⟨fun z => by omega, fun _ => ⟨fun z => by omega, fun _ => ⟨fun _ => ⟨⟨by omega, by omega⟩, s_slotOf s1 s2 s3 (fun _ _ => ⟨⟨by omega, by omega⟩, fun kk => ⟨⟨by omega, by omega⟩, ?_⟩, fun kk => ?_⟩)⟩, fun z => by omega⟩⟩⟩⟩
    · have ihv : ∀ o t : Nat, o ≤ 24 → t ≤ 24 → vtF (μ 263) o t → ∀ (v : Nat) (ν : xM) (Q : Int → xM → Prop), v < 24 → iOpW ν → iHop ν → ν 263 = μ 263 → (∀ ω, hopS ν ω → Q (hopeF (μ 263) k v o t) ω) → tX0_hoped m k v o t ν Q := by
        intro o t ho ht hvt v ν Q hv2 o1 o2 o3 o4
        refine ihn m (by omega) (by omega) v o t ν Q o1 o2 (by omega) ho ht (by rw [o3]; exact hvt) (fun ω f => ?_)
        rw [o3]; exact o4 ω f
      refine ihn m (by omega) (by omega) lo mid hi μ _ h hs (by omega) (by omega) (by omega) vs (fun ν1 f1 _ _ => ?_)
      refine up2b (n := μ 263 5) (fun i s ν => hopS μ ν ∧ s = hsum (μ 263) (wpow (μ 263) k) (hopeF (μ 263) k) lo mid hi i.toNat) (by omega) ⟨f1, rfl⟩ ?_
      rintro i s ν K i0 i1 ⟨f2, rfl⟩ _ hK
      obtain ⟨n, rfl⟩ : ∃ n : Nat, i = n := ⟨i.toNat, by omega⟩
      rw [Int.toNat_natCast]
      have o2 : iOpW ν := iOpW_a f2.a h
      have e2 : ν 263 = μ 263 := f2.1 263 (by omega) (by omega)
      have hs3 := hsum_3 hR hk lo mid hi n (by omega)
      rw [e5 ν o2 e2, es]
      refine ⟨⟨by omega, by omega⟩, fun d => ⟨⟨by omega, by omega⟩, ⟨by omega, by omega⟩, wl fun _ => wl fun _ => ⟨⟨by omega, by omega⟩, ?_⟩⟩, fun d => ?_⟩
      · have en : n = (μ 263 5).toNat := by omega
        have eh : hsum (μ 263) (wpow (μ 263) k) (hopeF (μ 263) k) lo mid hi n = hopeF (μ 263) (k + 1) lo mid hi := by rw [en]; rfl
        rw [eh]
        refine hq _ ⟨fun j a b => ?_, fun j hj => ?_, fun z => ?_, fun x y z h1 h2 h3 h4' k' hk' => ?_⟩
        · rw [← f2.1 j a b]; funext j2; rw [wi_cell a, wi_cell b]
        · rw [wi_place hj, wi_cell (by omega)]; exact f2.2.1 j hj
        · rw [wi_self] at z; exact absurd z (by decide)
        · have e263 : wi (wi ν 234 (2925 * k + slotN lo mid hi) (hopeF (μ 263) (k + 1) lo mid hi + 1)) 232 5 1 263 = μ 263 := by
            funext j; rw [wi_cell (by omega), wi_cell (by omega), e2]
          rw [e263] at h4' ⊢
          have sl2 := slotN_lt h1 h2 h3
          have old := f2.2.2.2 x y z h1 h2 h3 (by rw [e2]; exact h4') k' hk'
          rw [e2] at old
          rw [wi_cell (by omega)]
          by_cases q : 2925 * k' + slotN x y z = 2925 * k + slotN lo mid hi
          · have qk : k' = k := by omega
            subst qk
            obtain ⟨rfl, rfl, rfl⟩ := slot_inj h1 h2 h3 s1 s2 s3 (by omega)
            rw [wi_self]; right; rfl
          · rw [wi_place q]; exact old
      · have bx := hR.lik (i := n) (by omega)
        obtain ⟨x, hx⟩ : ∃ x, x = μ 263 (303 + n) := ⟨_, rfl⟩
        have sym : ∀ z, seatF (μ 263) x (wpow (μ 263) k) (hopeF (μ 263) k) lo mid hi ≤ z ↔ hopeF (μ 263) k lo mid hi ≤ z ∧ (∀ v ∈ upsBy (μ 263) lo x, wpow (μ 263) k + hopeF (μ 263) k v mid hi ≤ z) ∧ (1 < μ 263 0 → ∀ v ∈ upsBy (μ 263) mid x, wpow (μ 263) k + hopeF (μ 263) k v lo hi ≤ z) ∧ (2 < μ 263 0 → ∀ v ∈ upsBy (μ 263) hi x, wpow (μ 263) k + hopeF (μ 263) k v lo mid ≤ z) := by
          intro z
          rw [seatF_le]
          refine and_congr Iff.rfl (and_congr Iff.rfl (and_congr (imp_congr_right fun q => forall_congr' fun v => imp_congr_right fun _ => ?_) (imp_congr_right fun q => forall_congr' fun v => imp_congr_right fun _ => ?_)))
          · rw [hope_12 q k v lo hi]
          · rw [← hope_12 (show 1 < μ 263 0 by omega) k v lo mid, ← hope_23 q k lo v mid]
        have fin : ∀ (ν : xM) (M : Int), hopS μ ν → M = seatF (μ 263) x (wpow (μ 263) k) (hopeF (μ 263) k) lo mid hi → tX2_weightOf 39 n ν (fun r μ' => xIn r → xRan μ' → K (hsum (μ 263) (wpow (μ 263) k) (hopeF (μ 263) k) lo mid hi n + r * M) (n + 1) μ') := by
          intro ν M f3 hM
          have o3 : iOpW ν := iOpW_a f3.a h
          have e3 : ν 263 = μ 263 := f3.1 263 (by omega) (by omega)
          refine w_weight o3 (by omega) (by rw [e3]; omega) (fun _ _ => hK _ _ (by omega) ⟨f3, ?_⟩)
          rw [show ((n : Int) + 1).toNat = n + 1 by omega, e3, Int.toNat_natCast, hM, hx]; rfl
        have xn : xIn (n : Int) := ⟨by omega, by omega⟩
        have bxi : xIn x := by rw [hx]; exact ⟨by omega, by omega⟩
        have b203 : ∀ (ν3 : xM) (M r16 : Int), hopS μ ν3 → xIn M → (∀ z, M ≤ z ↔ hopeF (μ 263) k lo mid hi ≤ z ∧ (∀ v ∈ upsBy (μ 263) lo x, wpow (μ 263) k + hopeF (μ 263) k v mid hi ≤ z) ∧ (1 < μ 263 0 → ∀ v ∈ upsBy (μ 263) mid x, wpow (μ 263) k + hopeF (μ 263) k v lo hi ≤ z)) → tX0_hoped_b203 (tX0_hoped m) ((k + 1 : Nat) : Int) a b c lo hi mid ((k : Int) * 2925 + slotN lo mid hi) r16 (hsum (μ 263) (wpow (μ 263) k) (hopeF (μ 263) k) lo mid hi n) n x M ν3 Q K := by
          intro ν3 M r16 f3 hMi hM _
          have o3 : iOpW ν3 := iOpW_a f3.a h
          have e3 : ν3 263 = μ 263 := f3.1 263 (by omega) (by omega)
          rw [e0 ν3 o3 e3]
          refine ⟨fun q => ⟨xn, fin ν3 M f3 (eq_of_le fun z => ?_)⟩, fun q => ⟨⟨by omega, by omega⟩, ⟨by omega, by omega⟩, fun q2 => ⟨xn, fin ν3 M f3 (eq_of_le fun z => ?_)⟩, fun q2 => ⟨bxi, ⟨by omega, by omega⟩, s_hopedSeated (f := hopeF (μ 263) k) (k := k) o3 f3.2.2.2 (by omega) hk (by omega) fb (fun v ν Q a b c d e => ihv lo mid (by omega) (by omega) ⟨fun z => by omega, fun z => by omega⟩ v ν Q a b c (by rw [d, e3]) e) (fun ν4 f4 _ _ => ⟨hMi, xn, fin ν4 _ (f3.tt f4) (eq_of_le fun z => ?_)⟩)⟩⟩⟩
          · rw [hM, sym]
            exact and_congr Iff.rfl (and_congr Iff.rfl ⟨fun y => ⟨y, fun y2 => by omega⟩, fun y => y.1⟩)
          · rw [hM, sym]
            refine and_congr Iff.rfl (and_congr Iff.rfl ⟨fun y => ⟨y, fun y2 v hv => ?_⟩, fun y => y.1⟩)
            have e : hi = mid := by omega
            rw [e] at hv
            have := y (by omega) v hv
            rw [e] at this
            exact this
          · rw [e3, sym, Int.max_le, hM, mxB_le]
            refine ⟨fun y => ⟨y.1.1, y.1.2.1, y.1.2.2, fun _ => y.2.2⟩, fun y => ⟨⟨y.1, y.2.1, y.2.2.1⟩, ?_, y.2.2.2 (by omega)⟩⟩
            exact Int.le_trans (fb lo mid hi).1 y.1
        refine w_likely o2 (by omega) (by rw [e2]; omega) (fun _ _ => ⟨⟨by omega, by omega⟩, ?_⟩)
        rw [e2, Int.toNat_natCast, ← hx]
        refine s_hopedSeated (f := hopeF (μ 263) k) (k := k) o2 f2.2.2.2 (by omega) hk (by omega) fb (fun v ν Q a b c d e => ihv mid hi (by omega) (by omega) vs v ν Q a b c (by rw [d, e2]) e) (fun ν2 f3 _ _ => ?_)
        have f12 := f2.tt f3
        have o3 : iOpW ν2 := iOpW_a f12.a h
        have e3 : ν2 263 = μ 263 := f12.1 263 (by omega) (by omega)
        rw [e2, e0 ν2 o3 e3]
        have m12 : ∀ z, max (hopeF (μ 263) k lo mid hi) (mxB (fun v => wpow (μ 263) k + hopeF (μ 263) k v mid hi) (upsBy (μ 263) lo x) 0) ≤ z ↔ hopeF (μ 263) k lo mid hi ≤ z ∧ ∀ v ∈ upsBy (μ 263) lo x, wpow (μ 263) k + hopeF (μ 263) k v mid hi ≤ z := by
          intro z
          rw [Int.max_le, mxB_le]
          exact ⟨fun y => ⟨y.1, y.2.2⟩, fun y => ⟨y.1, Int.le_trans (fb lo mid hi).1 y.1, y.2⟩⟩
        have m12b : xIn (max (hopeF (μ 263) k lo mid hi) (mxB (fun v => wpow (μ 263) k + hopeF (μ 263) k v mid hi) (upsBy (μ 263) lo x) 0)) := by
          have q1 := (m12 629856).2 ⟨by have := (fb lo mid hi).2; omega, fun v _ => by have := (fb v mid hi).2; omega⟩
          have q2 := ((m12 _).1 (Int.le_refl _)).1
          have := (fb lo mid hi).1
          exact ⟨by omega, by omega⟩
        refine ⟨fun q => b203 ν2 _ _ f12 m12b (fun z => ?_), fun q => ⟨fun q2 => b203 ν2 _ _ f12 m12b (fun z => ?_), fun q2 => s_hopedSeated (f := hopeF (μ 263) k) (k := k) o3 f12.2.2.2 (by omega) hk (by omega) fb (fun v ν Q a b c d e => ihv lo hi (by omega) (by omega) ⟨fun z => by omega, vs.2⟩ v ν Q a b c (by rw [d, e3]) e) (fun ν4 f4 _ _ => b203 ν4 _ _ (f12.tt f4) ?_ (fun z => ?_))⟩⟩
        · rw [m12]
          exact ⟨fun y => ⟨y.1, y.2, fun y2 => by omega⟩, fun y => ⟨y.1, y.2.1⟩⟩
        · rw [m12]
          refine ⟨fun y => ⟨y.1, y.2, fun _ v hv => ?_⟩, fun y => ⟨y.1, y.2.1⟩⟩
          have e : mid = lo := by omega
          rw [e] at hv
          have := y.2 v hv
          rw [e] at this
          exact this
        · rw [e3]
          have q1 : mxB (fun v => wpow (μ 263) k + hopeF (μ 263) k v lo hi) (upsBy (μ 263) mid x) 0 ≤ 629856 := (mxB_le _ _).2 ⟨by omega, fun v _ => by have := (fb v lo hi).2; omega⟩
          have q2 := ((mxB_le (f := fun v => wpow (μ 263) k + hopeF (μ 263) k v lo hi) (upsBy (μ 263) mid x) 0).1 (Int.le_refl _)).1
          exact xmax_in m12b ⟨by omega, by omega⟩
        · rw [e3, Int.max_le, m12, mxB_le]
          refine ⟨fun y => ⟨y.1.1, y.1.2, fun _ => y.2.2⟩, fun y => ⟨⟨y.1, y.2.1⟩, Int.le_trans (fb lo mid hi).1 y.1, y.2.2 (by omega)⟩⟩
    · rw [es] at kk ⊢
      have old := hs lo mid hi s1 s2 s3 vs k (by omega)
      have ev : μ 234 (2925 * k + slotN lo mid hi) = hopeF (μ 263) (k + 1) lo mid hi + 1 := by
        rcases old with q | q
        · omega
        · exact q
      rw [ev, Int.add_sub_cancel]
      exact ⟨⟨by omega, by omega⟩, hq μ (hopS.rf hs)⟩
