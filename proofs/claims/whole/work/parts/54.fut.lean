/-! futures: what they are, whatever the tables' order -/
theorem mxB_le {f : Nat → Int} {z : Int} : ∀ (l : List Nat) (a : Int), mxB f l a ≤ z ↔ a ≤ z ∧ ∀ v ∈ l, f v ≤ z := by
  intro l
  induction l with
  | nil => intro a; simp [mxB]
  | cons v l ih =>
    intro a
    show mxB f l (max a (f v)) ≤ z ↔ _
    rw [ih]
    constructor
    · rintro ⟨h1, h2⟩
      refine ⟨by omega, fun u hu => ?_⟩
      rcases List.mem_cons.1 hu with q | q
      · rw [q]; omega
      · exact h2 u q
    · rintro ⟨h1, h2⟩
      have := h2 v (by simp)
      exact ⟨by omega, fun u hu => h2 u (by simp [hu])⟩
theorem mxB_snoc {f : Nat → Int} {l : List Nat} {a : Int} {v : Nat} : mxB f (l ++ [v]) a = max (mxB f l a) (f v) := by simp [mxB]
theorem eq_of_le {s t : Int} (h : ∀ z, s ≤ z ↔ t ≤ z) : s = t := Int.le_antisymm ((h t).2 (Int.le_refl _)) ((h s).1 (Int.le_refl _))
theorem seatF_le {R : Nat → Int} {x p z : Int} {f : Nat → Nat → Nat → Int} {a b c : Nat} : seatF R x p f a b c ≤ z ↔ f a b c ≤ z ∧ (∀ v ∈ upsBy R a x, p + f v b c ≤ z) ∧ (1 < R 0 → ∀ v ∈ upsBy R b x, p + f a v c ≤ z) ∧ (2 < R 0 → ∀ v ∈ upsBy R c x, p + f a b v ≤ z) := by
  simp only [seatF]
  by_cases h1 : 1 < R 0
  · by_cases h2 : 2 < R 0
    · simp only [h1, h2, if_true, mxB_le, true_implies, and_assoc]
    · simp only [h1, h2, if_true, if_false, mxB_le, true_implies, false_implies, and_true, and_assoc]
  · have h2 : ¬ 2 < R 0 := by omega
    simp only [h1, h2, if_false, mxB_le, false_implies, and_true]
def sy12 (f : Nat → Nat → Nat → Int) : Prop := ∀ a b c, f b a c = f a b c
def sy23 (f : Nat → Nat → Nat → Int) : Prop := ∀ a b c, f a c b = f a b c
theorem seat_12 {R : Nat → Int} {x p : Int} {f : Nat → Nat → Nat → Int} (hT : 1 < R 0) (hf : sy12 f) : sy12 (seatF R x p f) := by
  intro a b c
  refine eq_of_le (fun z => ?_)
  rw [seatF_le, seatF_le, hf a b c]
  refine and_congr Iff.rfl ?_
  constructor
  · rintro ⟨h1, h2, h3⟩
    exact ⟨fun v hv => by rw [← hf]; exact h2 hT v hv, fun _ v hv => by rw [← hf]; exact h1 v hv, fun q v hv => by rw [← hf]; exact h3 q v hv⟩
  · rintro ⟨h1, h2, h3⟩
    exact ⟨fun v hv => by rw [← hf]; exact h2 hT v hv, fun _ v hv => by rw [← hf]; exact h1 v hv, fun q v hv => by rw [← hf]; exact h3 q v hv⟩
theorem seat_23 {R : Nat → Int} {x p : Int} {f : Nat → Nat → Nat → Int} (hT : 2 < R 0) (hf : sy23 f) : sy23 (seatF R x p f) := by
  intro a b c
  refine eq_of_le (fun z => ?_)
  rw [seatF_le, seatF_le, hf a b c]
  refine and_congr Iff.rfl ?_
  constructor
  · rintro ⟨h1, h2, h3⟩
    exact ⟨fun v hv => by rw [← hf]; exact h1 v hv, fun _ v hv => by rw [← hf]; exact h3 hT v hv, fun _ v hv => by rw [← hf]; exact h2 (by omega) v hv⟩
  · rintro ⟨h1, h2, h3⟩
    exact ⟨fun v hv => by rw [← hf]; exact h1 v hv, fun _ v hv => by rw [← hf]; exact h3 hT v hv, fun _ v hv => by rw [← hf]; exact h2 (by omega) v hv⟩
theorem most_12 {R : Nat → Int} (hT : 1 < R 0) : ∀ n, sy12 (mostF R n)
  | 0 => fun _ _ _ => rfl
  | n + 1 => seat_12 hT (most_12 hT n)
theorem most_23 {R : Nat → Int} (hT : 2 < R 0) : ∀ n, sy23 (mostF R n)
  | 0 => fun _ _ _ => rfl
  | n + 1 => seat_23 hT (most_23 hT n)
theorem hsum_c {R : Nat → Int} {p : Int} {f : Nat → Nat → Nat → Int} {a b c a' b' c' : Nat} (h : ∀ x, seatF R x p f a b c = seatF R x p f a' b' c') : ∀ i, hsum R p f a b c i = hsum R p f a' b' c' i
  | 0 => rfl
  | i + 1 => by simp only [hsum]; rw [hsum_c h i, h]
theorem hope_12 {R : Nat → Int} (hT : 1 < R 0) : ∀ n, sy12 (hopeF R n)
  | 0 => fun _ _ _ => rfl
  | n + 1 => fun a b c => hsum_c (fun x => seat_12 hT (hope_12 hT n) a b c) _
theorem hope_23 {R : Nat → Int} (hT : 2 < R 0) : ∀ n, sy23 (hopeF R n)
  | 0 => fun _ _ _ => rfl
  | n + 1 => fun a b c => hsum_c (fun x => seat_23 hT (hope_23 hT n) a b c) _
/-! three in order -/
theorem srt_ex {R : Nat → Int} (hR : okR R) {a b c : Nat} (ha : a ≤ 24) (hb : b ≤ 24) (hc : c ≤ 24) (hv : vtF R b c) : ∃ lo mid hi : Nat, lo ≤ mid ∧ mid ≤ hi ∧ hi < 25 ∧ min (a : Int) (min b c) = lo ∧ max (a : Int) (max b c) = hi ∧ (a : Int) + b + c - min (a : Int) (min b c) - max (a : Int) (max b c) = mid ∧ vtF R mid hi ∧ ∀ f, (1 < R 0 → sy12 f) → (2 < R 0 → sy23 f) → f lo mid hi = f a b c := by
  have bT := hR.T
  obtain ⟨h2, h3⟩ := hv
  rcases (show R 0 = 1 ∨ R 0 = 2 ∨ R 0 = 3 by omega) with q | q | q
  · have e2 := h2 (by omega); have e3 := h3 (by omega)
    subst e2; subst e3
    exact ⟨a, 24, 24, by omega, by omega, by omega, by omega, by omega, by omega, ⟨fun _ => rfl, fun _ => rfl⟩, fun f _ _ => rfl⟩
  · have e3 := h3 (by omega)
    subst e3
    rcases Nat.le_total a b with z | z
    · exact ⟨a, b, 24, by omega, by omega, by omega, by omega, by omega, by omega, ⟨fun y => by omega, fun _ => rfl⟩, fun f _ _ => rfl⟩
    · exact ⟨b, a, 24, by omega, by omega, by omega, by omega, by omega, by omega, ⟨fun y => by omega, fun _ => rfl⟩, fun f y _ => y (by omega) a b 24⟩
  · have vt : ∀ x y : Nat, vtF R x y := fun x y => ⟨fun z => by omega, fun z => by omega⟩
    have s12 : ∀ f, (1 < R 0 → sy12 f) → sy12 f := fun f h => h (by omega)
    have s23 : ∀ f, (2 < R 0 → sy23 f) → sy23 f := fun f h => h (by omega)
    rcases Nat.le_total a b with z | z <;> rcases Nat.le_total b c with y | y <;> rcases Nat.le_total a c with x | x
    · exact ⟨a, b, c, by omega, by omega, by omega, by omega, by omega, by omega, vt _ _, fun f _ _ => rfl⟩
    · exact ⟨a, b, c, by omega, by omega, by omega, by omega, by omega, by omega, vt _ _, fun f _ _ => rfl⟩
    · exact ⟨a, c, b, by omega, by omega, by omega, by omega, by omega, by omega, vt _ _, fun f _ h => s23 f h a b c⟩
    · exact ⟨c, a, b, by omega, by omega, by omega, by omega, by omega, by omega, vt _ _, fun f g h => by rw [s12 f g a c b]; exact s23 f h a b c⟩
    · exact ⟨b, a, c, by omega, by omega, by omega, by omega, by omega, by omega, vt _ _, fun f g _ => s12 f g a b c⟩
    · exact ⟨b, c, a, by omega, by omega, by omega, by omega, by omega, by omega, vt _ _, fun f g h => by rw [s23 f h b a c]; exact s12 f g a b c⟩
    · exact ⟨c, b, a, by omega, by omega, by omega, by omega, by omega, by omega, vt _ _, fun f g h => by rw [s12 f g b c a, s23 f h b a c]; exact s12 f g a b c⟩
    · exact ⟨c, b, a, by omega, by omega, by omega, by omega, by omega, by omega, vt _ _, fun f g h => by rw [s12 f g b c a, s23 f h b a c]; exact s12 f g a b c⟩
/-! slots -/
theorem slot_c0 : ∀ c d : Fin 25, c.val < d.val → c.val * (c.val + 1) * (c.val + 2) / 6 + c.val * (c.val + 1) / 2 + c.val < d.val * (d.val + 1) * (d.val + 2) / 6 := by decide +kernel
theorem slot_b0 : ∀ c d : Fin 25, c.val < d.val → c.val * (c.val + 1) / 2 + c.val < d.val * (d.val + 1) / 2 := by decide +kernel
theorem slot_inj {a b c a' b' c' : Nat} (h1 : a ≤ b) (h2 : b ≤ c) (h3 : c < 25) (h1' : a' ≤ b') (h2' : b' ≤ c') (h3' : c' < 25) (h : slotN a b c = slotN a' b' c') : a = a' ∧ b = b' ∧ c = c' := by
  have mb : ∀ b c : Nat, b ≤ c → c < 25 → b * (b + 1) / 2 + b ≤ c * (c + 1) / 2 + c := by
    intro b c hbc hc
    by_cases e : b = c
    · subst e; exact Nat.le_refl _
    · have := slot_b0 ⟨b, by omega⟩ ⟨c, hc⟩ (show b < c by omega)
      simp only at this; omega
  unfold slotN at h
  have ec : c = c' := by
    rcases Nat.lt_trichotomy c c' with q | q | q
    · have q1 := slot_c0 ⟨c, h3⟩ ⟨c', h3'⟩ q
      have q2 := mb b c h2 h3
      simp only at q1; omega
    · exact q
    · have q1 := slot_c0 ⟨c', h3'⟩ ⟨c, h3⟩ q
      have q2 := mb b' c' h2' h3'
      simp only at q1; omega
  subst ec
  have eb : b = b' := by
    rcases Nat.lt_trichotomy b b' with q | q | q
    · have q1 := slot_b0 ⟨b, by omega⟩ ⟨b', by omega⟩ q
      simp only at q1; omega
    · exact q
    · have q1 := slot_b0 ⟨b', by omega⟩ ⟨b, by omega⟩ q
      simp only at q1; omega
  subst eb
  exact ⟨by omega, rfl, rfl⟩
theorem slot_bd : ∀ c : Fin 25, c.val * (c.val + 1) * (c.val + 2) ≤ 15600 ∧ c.val * (c.val + 1) ≤ 600 := by decide +kernel
theorem s_slotOf {μ : xM} {a b c : Nat} {Q : Int → xM → Prop} (h1 : a ≤ b) (h2 : b ≤ c) (h3 : c < 25) (hq : Q (slotN a b c : Int) μ) : tX0_slotOf a b c μ Q := by
  have l := slotN_lt h1 h2 h3
  have bc := slot_bd ⟨c, h3⟩
  have bb := slot_bd ⟨b, by omega⟩
  simp only at bc bb
  have e1 : ((c : Int) * (c + 1)) * (c + 2) = ((c * (c + 1) * (c + 2) : Nat) : Int) := by simp
  have e2 : (b : Int) * (b + 1) = ((b * (b + 1) : Nat) : Int) := by simp
  have d1 : (((c * (c + 1) * (c + 2) : Nat) : Int)).tdiv 6 = ((c * (c + 1) * (c + 2) / 6 : Nat) : Int) := by rw [Int.tdiv_eq_ediv_of_nonneg (by omega)]; omega
  have d2 : (((b * (b + 1) : Nat) : Int)).tdiv 2 = ((b * (b + 1) / 2 : Nat) : Int) := by rw [Int.tdiv_eq_ediv_of_nonneg (by omega)]; omega
  intro _ _ _ _
  rw [e1, e2, d1, d2]
  have es : ((c * (c + 1) * (c + 2) / 6 : Nat) : Int) + ((b * (b + 1) / 2 : Nat) : Int) + a = (slotN a b c : Int) := by unfold slotN; omega
  rw [es]
  exact ⟨⟨by omega, by omega⟩, ⟨by omega, by omega⟩, ⟨by omega, by omega⟩, fun z => by omega, fun _ => ⟨fun _ => hq, fun z => by omega⟩⟩
/-! four bits for each guest -/
theorem nib_eq (x : Int) : ∀ g : Nat, g < 8 → nib x g = ((((Int32.ofInt x).toBitVec >>> (4 * g)) &&& 15#32).toNat : Int) := by
  intro g hg
  have key : nib x g = ((((Int32.ofInt x).toBitVec >>> (4 * g)) &&& 15#32)).toInt := by
    unfold nib xAnd xUshr
    rw [Int32.ofInt_toInt]
    rcases (show g = 0 ∨ g = 1 ∨ g = 2 ∨ g = 3 ∨ g = 4 ∨ g = 5 ∨ g = 6 ∨ g = 7 by omega) with rfl | rfl | rfl | rfl | rfl | rfl | rfl | rfl <;> rfl
  rw [key, BitVec.toInt_eq_toNat_of_lt]
  have : (((Int32.ofInt x).toBitVec >>> (4 * g)) &&& 15#32).toNat ≤ 15 := by rw [BitVec.toNat_and]; exact Nat.and_le_right
  omega
theorem nib_rng (x : Int) (g : Nat) (hg : g < 8) : 0 ≤ nib x g ∧ nib x g ≤ 15 := by
  rw [nib_eq x g hg]
  have : (((Int32.ofInt x).toBitVec >>> (4 * g)) &&& 15#32).toNat ≤ 15 := by rw [BitVec.toNat_and]; exact Nat.and_le_right
  omega
theorem or_shl (x m : Int) (g : Nat) (hg : g < 8) : (Int32.ofInt (xOr x (xShl m (4 * (g : Int))))).toBitVec = (Int32.ofInt x).toBitVec ||| ((Int32.ofInt m).toBitVec <<< (4 * g)) := by
  unfold xOr xShl
  rw [Int32.ofInt_toInt, Int32.ofInt_toInt]
  rcases (show g = 0 ∨ g = 1 ∨ g = 2 ∨ g = 3 ∨ g = 4 ∨ g = 5 ∨ g = 6 ∨ g = 7 by omega) with rfl | rfl | rfl | rfl | rfl | rfl | rfl | rfl <;> rfl
theorem b15 : ∀ i : Fin 32, (15#32).getLsbD i.val = decide (i.val < 4) := by decide
theorem nib_or {x m : Int} {g k : Nat} (hg : g < 8) (hk : k < 8) (m0 : 0 ≤ m) (m1 : m < 16) (hz : nib x g = 0) : nib (xOr x (xShl m (4 * (g : Int)))) k = if k = g then m else nib x k := by
  have em : (Int32.ofInt m).toBitVec.toNat = m.toNat := by
    have : ∀ j : Fin 16, (Int32.ofInt (j.val : Int)).toBitVec.toNat = j.val := by decide
    have q := this ⟨m.toNat, by omega⟩
    simp only [Int.toNat_of_nonneg m0] at q
    exact q
  have mb : ∀ i, 4 ≤ i → (Int32.ofInt m).toBitVec.getLsbD i = false := by
    intro i hi
    show (Int32.ofInt m).toBitVec.toNat.testBit i = false
    rw [em]
    exact Nat.testBit_lt_two_pow (Nat.lt_of_lt_of_le (show m.toNat < 2 ^ 4 by omega) (Nat.pow_le_pow_right (by omega) hi))
  have bits : ∀ X M : BitVec 32, (∀ i, 4 ≤ i → M.getLsbD i = false) → ((X ||| (M <<< (4 * g))) >>> (4 * k)) &&& 15#32 = if k = g then ((X >>> (4 * g)) &&& 15#32) ||| (M &&& 15#32) else (X >>> (4 * k)) &&& 15#32 := by
    intro X M hM
    apply BitVec.eq_of_getLsbD_eq
    intro i hi
    have b := b15 ⟨i, hi⟩
    simp only at b
    by_cases e : k = g
    · rw [if_pos e]
      subst e
      simp only [BitVec.getLsbD_and, BitVec.getLsbD_or, BitVec.getLsbD_ushiftRight, BitVec.getLsbD_shiftLeft, b]
      by_cases h4 : i < 4
      · have h5 : 4 * k + i < 32 := by omega
        have h6 : ¬ 4 * k + i < 4 * k := by omega
        simp [h4, h5, h6]
      · simp [h4]
    · rw [if_neg e]
      simp only [BitVec.getLsbD_and, BitVec.getLsbD_or, BitVec.getLsbD_ushiftRight, BitVec.getLsbD_shiftLeft, b]
      by_cases h4 : i < 4
      · by_cases h6 : 4 * k + i < 4 * g
        · simp [h4, h6]
        · have := hM (4 * k + i - 4 * g) (by omega)
          simp [h4, this]
      · simp [h4]
  rw [nib_eq _ k hk, or_shl x m g hg, bits _ _ mb]
  by_cases e : k = g
  · rw [if_pos e, if_pos e]
    rw [nib_eq x g hg] at hz
    have z : ((Int32.ofInt x).toBitVec >>> (4 * g)) &&& 15#32 = 0#32 := by
      apply BitVec.eq_of_toNat_eq
      simp only [BitVec.toNat_ofNat]
      omega
    rw [z, BitVec.zero_or, BitVec.toNat_and, em]
    have : m.toNat &&& 15 = m.toNat := by
      have q : ∀ j : Fin 16, j.val &&& 15 = j.val := by decide
      exact q ⟨m.toNat, by omega⟩
    show ((m.toNat &&& 15 : Nat) : Int) = m
    rw [this]; omega
  · rw [if_neg e, if_neg e, nib_eq x k hk]
