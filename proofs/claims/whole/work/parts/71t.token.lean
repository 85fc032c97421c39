/-! the reference's tokens -/
def rcK (K : Int) : Int := if K = 0 then 0 else if K = 1 then 2 else if K = 2 then 3 else if K = 3 then 59 else if K = 4 then 44 else 1
def whF (T : Nat → Int) (a : Nat) : Nat → Int
  | 0 => 0
  | k + 1 => 10 * whF T a k + T (a + k) - 48
def lkF (T : Nat → Int) (n p : Nat) : Int := if p < n then T p else -1
def tpR (T : Nat → Int) (n : Nat) (ν : xM) : Prop := n ≤ 900 ∧ ν 260 3 = n ∧ (∀ i, i < n → ν 261 i = T i) ∧ (∀ i, i < n → 0 ≤ T i ∧ T i ≤ 255)
def tR (T : Nat → Int) (n a : Nat) (ν : xM) : Prop := tpR T n ν ∧ a ≤ n ∧ ν 260 4 = a ∧ ν 260 5 = tkS7 T n a ∧ ν 260 6 = rcK (tkK T n a)
  ∧ (tkK T n a = 1 → ν 260 8 = (tkS7 T n a : Int) - a ∧ ∀ k, a + k < tkS7 T n a → ν 262 k = T (a + k)) ∧ (tkK T n a = 2 → ν 260 7 = whF T a (tkS7 T n a - a))
def rS (μ ν : xM) : Prop := (∀ k, k ≠ 260 → k ≠ 262 → ν k = μ k) ∧ (∀ j, ¬ (4 ≤ j ∧ j ≤ 8) → ν 260 j = μ 260 j)
theorem rS.rf (μ : xM) : rS μ μ := ⟨fun _ _ _ => rfl, fun _ _ => rfl⟩
theorem rS.tt {μ ν ω : xM} (h : rS μ ν) (h2 : rS ν ω) : rS μ ω := ⟨fun k a b => (h2.1 k a b).trans (h.1 k a b), fun j a => (h2.2 j a).trans (h.2 j a)⟩
theorem rS.w {μ ν : xM} (h : rS μ ν) {j : Nat} {v : Int} (hj : 4 ≤ j ∧ j ≤ 8) : rS μ (wi ν 260 j v) := ⟨fun k a b => by rw [← h.1 k a b]; funext i; exact wi_cell a, fun i hi => by rw [wi_place (by omega)]; exact h.2 i hi⟩
theorem rS.v {μ ν : xM} (h : rS μ ν) {j : Nat} {v : Int} : rS μ (wi ν 262 j v) := ⟨fun k a b => by rw [← h.1 k a b]; funext i; exact wi_cell b, fun i hi => by rw [wi_cell (by omega)]; exact h.2 i hi⟩
theorem tpR.n {T : Nat → Int} {n : Nat} {μ ν : xM} (h : tpR T n μ) (s : rS μ ν) : tpR T n ν := ⟨h.1, by rw [s.2 3 (by omega)]; exact h.2.1, fun i hi => by rw [s.1 261 (by omega) (by omega)]; exact h.2.2.1 i hi, h.2.2.2⟩
theorem r_lk7 {T : Nat → Int} {n i : Nat} {ν : xM} {Q : Int → xM → Prop} (h : tpR T n ν) (hq : Q (lkF T n i) ν) : tX11_look i ν Q := by
  have := h.1
  intro _ _
  rw [h.2.1]
  unfold lkF at hq
  refine ⟨fun z => by rw [if_neg (by omega)] at hq; exact hq, fun z => ⟨⟨by omega, by omega⟩, ?_⟩⟩
  rw [if_pos (by omega)] at hq
  rw [Int.toNat_natCast, h.2.2.1 i (by omega)]; exact hq
theorem r_small {x : Int} {ν : xM} {Q : Int → xM → Prop} (h1 : 97 ≤ x ∧ x ≤ 122 → Q 1 ν) (h0 : ¬ (97 ≤ x ∧ x ≤ 122) → Q 0 ν) : tX11_isSmall x ν Q := fun _ _ => ⟨fun z => h0 (by omega), fun z => ⟨fun y => h0 (by omega), fun y => h1 ⟨by omega, by omega⟩⟩⟩
theorem r_digit {x : Int} {ν : xM} {Q : Int → xM → Prop} (h1 : 48 ≤ x ∧ x ≤ 57 → Q 1 ν) (h0 : ¬ (48 ≤ x ∧ x ≤ 57) → Q 0 ν) : tX11_isDigit x ν Q := fun _ _ => ⟨fun z => h0 (by omega), fun z => ⟨fun y => h0 (by omega), fun y => h1 ⟨by omega, by omega⟩⟩⟩
theorem run_in {T : Nat → Int} {n a i : Nat} {lo hi : Int} (l0 : 0 ≤ lo) (h0 : a ≤ i) (hr : i ≤ rnF T n lo hi a) : (lo ≤ lkF T n i ∧ lkF T n i ≤ hi ↔ i < rnF T n lo hi a) ∧ (i < rnF T n lo hi a → i < n ∧ lkF T n i = T i) := by
  have r := rnF_is T n lo hi a
  have k2 : i < rnF T n lo hi a → i < n ∧ lkF T n i = T i := fun z => by
    have q := r.2.1 i h0 z
    exact ⟨q.1, by unfold lkF; rw [if_pos q.1]⟩
  refine ⟨⟨fun z => ?_, fun z => ?_⟩, k2⟩
  · rcases Nat.lt_or_ge i (rnF T n lo hi a) with q | q
    · exact q
    · have e : i = rnF T n lo hi a := by omega
      unfold lkF at z
      by_cases c : i < n
      · rw [if_pos c] at z
        exact absurd ⟨by omega, by rw [← e]; exact z⟩ r.2.2
      · rw [if_neg c] at z; omega
  · rw [(k2 z).2]; exact (r.2.1 i h0 z).2
theorem whF_b {T : Nat → Int} {a : Nat} : ∀ k : Nat, (∀ i, i < k → 48 ≤ T (a + i) ∧ T (a + i) ≤ 57) → k ≤ 3 → 0 ≤ whF T a k ∧ whF T a k ≤ 999 ∧ (k ≤ 2 → whF T a k ≤ 99) ∧ (k ≤ 1 → whF T a k ≤ 9) := by
  intro k h hk
  rcases (show k = 0 ∨ k = 1 ∨ k = 2 ∨ k = 3 by omega) with rfl | rfl | rfl | rfl
  · simp [whF]
  · have := h 0 (by omega); simp [whF] at *; omega
  · have := h 0 (by omega); have := h 1 (by omega); simp [whF] at *; omega
  · have := h 0 (by omega); have := h 1 (by omega); have := h 2 (by omega); simp [whF] at *; omega
theorem r_next {T : Nat → Int} {n p : Nat} {ν : xM} {Q : xM → Prop} (h : tpR T n ν) (hp : ν 260 5 = p) (hn : p ≤ n) (hq : ∀ ω, rS ν ω → tR T n (skF T n p) ω → Q ω) : tX11_next ν Q := by
  have n9 := h.1
  have sk := skF_is T n p
  have sl := isSk_le sk hn
  obtain ⟨a, ea⟩ : ∃ a, a = skF T n p := ⟨_, rfl⟩
  rw [← ea] at sk sl hq
  have tl := tkS7_le (T := T) sl
  intro _
  rw [hp]
  refine rd1 (n := (a : Int)) (fun i => True) (by have := sk.1; omega) trivial ?_
  rintro i K i0 i1 _ hK
  obtain ⟨i, rfl⟩ : ∃ m : Nat, i = m := ⟨i.toNat, by omega⟩
  refine ⟨⟨by omega, by omega⟩, r_lk7 h (fun _ _ => ⟨fun z => ?_, fun z => ?_⟩)⟩
  rotate_left
  · have lt : i < n ∧ T i = 32 := by
      unfold lkF at z
      by_cases c : i < n
      · rw [if_pos c] at z; exact ⟨c, z⟩
      · rw [if_neg c] at z; exact absurd z (by decide)
    have : i ≠ a := fun e => sk.2.2 (by rw [← e]; exact lt)
    exact hK (by omega) trivial
  have e : i = a := by
    rcases Nat.lt_or_ge i a with q | q
    · have := sk.2.1 i (by omega) q
      unfold lkF at z
      rw [if_pos this.1] at z
      exact absurd this.2 z
    · omega
  rw [e] at z ⊢
  refine wl fun _ => r_lk7 (h.n ((rS.rf ν).w (by omega))) (fun _ _ => wl fun _ => wl fun _ => ?_)
  obtain ⟨ξ, eξ⟩ : ∃ ξ, ξ = wi (wi (wi ν 260 4 a) 260 8 0) 260 7 0 := ⟨_, rfl⟩
  rw [← eξ]
  have s : rS ν ξ := by rw [eξ]; exact (((rS.rf ν).w (by omega)).w (by omega)).w (by omega)
  have x4 : ξ 260 4 = a := by rw [eξ]; rfl
  have x8 : ξ 260 8 = 0 := by rw [eξ]; rfl
  have x7 : ξ 260 7 = 0 := by rw [eξ]; rfl
  have tx := h.n s
  have done : ∀ ω : xM, rS ξ ω → ω 260 4 = a → ω 260 5 = tkS7 T n a → ω 260 6 = rcK (tkK T n a) → (tkK T n a = 1 → ω 260 8 = (tkS7 T n a : Int) - a ∧ ∀ k, a + k < tkS7 T n a → ω 262 k = T (a + k)) → (tkK T n a = 2 → ω 260 7 = whF T a (tkS7 T n a - a)) → Q ω := fun ω so u1 u2 u3 u4 u5 => hq ω (s.tt so) ⟨h.n (s.tt so), sl, u1, u2, u3, u4, u5⟩
  by_cases c : a < n
  · have kk : tkK T n a = if T a = 59 then 3 else if T a = 44 then 4 else if 97 ≤ T a ∧ T a ≤ 122 then (if rnF T n 97 122 a ≤ a + 8 then 1 else 5) else if 48 ≤ T a ∧ T a ≤ 57 then (if rnF T n 48 57 a ≤ a + 3 then 2 else 5) else 5 := by unfold tkK; rw [if_pos c]
    have ks : tkS7 T n a = if T a = 59 ∨ T a = 44 then a + 1 else if 97 ≤ T a ∧ T a ≤ 122 then rnF T n 97 122 a else if 48 ≤ T a ∧ T a ≤ 57 then rnF T n 48 57 a else a + 1 := by unfold tkS7; rw [if_pos c]
    have lk : lkF T n a = T a := by unfold lkF; rw [if_pos c]
    have b0 := h.2.2.2 a c
    rw [lk] at z ⊢
    refine ⟨fun _ => r_small (fun sm _ _ => ⟨fun z => absurd z (by decide), fun _ => ?_⟩) (fun ns _ _ => ⟨fun _ => r_digit (fun dg _ _ => ⟨fun z => absurd z (by decide), fun _ => ?_⟩) (fun nd _ _ => ⟨fun _ => ⟨⟨by omega, by omega⟩, wl fun _ => ?_⟩, fun z => absurd z (by decide)⟩), fun z => absurd z (by decide)⟩), fun y => by omega⟩
    · -- letters
      have r := rnF_is T n 97 122 a
      have rl := isRn_le r sl
      rw [if_neg (by omega), if_neg (by omega), if_pos sm] at kk
      rw [if_neg (by rintro (y | y) <;> omega), if_pos sm] at ks
      refine up1 (n := ((rnF T n 97 122 a : Nat) : Int)) (fun i ω => rS ξ ω ∧ ω 260 4 = a ∧ ω 260 8 = i - a ∧ ∀ k : Nat, k < 8 → (a : Int) + k < i → ω 262 k = T (a + k)) (by have := r.1; omega) ⟨rS.rf ξ, x4, by omega, fun k _ y => by omega⟩ ?_
      rintro i ω K i0 i1 ⟨so, o4, o8, oc⟩ _ hK
      obtain ⟨i, rfl⟩ : ∃ m : Nat, i = m := ⟨i.toNat, by omega⟩
      have ri := run_in (T := T) (n := n) (a := a) (i := i) (lo := 97) (hi := 122) (by decide) (by omega) (by omega)
      have to := tx.n so
      refine ⟨⟨by omega, by omega⟩, r_lk7 to (fun _ _ => r_small (fun y _ _ => ⟨fun z => absurd z (by decide), fun _ => ?_⟩) (fun y _ _ => ⟨fun _ => wl fun _ => ?_, fun z => absurd z (by decide)⟩))⟩
      · have lt := ri.1.1 y
        have li := (ri.2 lt).2
        rw [o8]
        refine ⟨fun y8 => ⟨⟨by omega, by omega⟩, wl fun _ => hK _ (by omega) ⟨so.w (by omega), by rw [wi_place (by omega)]; exact o4, by rw [wi_self]; omega, fun k k8 kl => ?_⟩⟩, fun y8 => r_lk7 to (fun _ _ => ⟨⟨by omega, by omega⟩, wl fun _ => ?_⟩)⟩
        · rw [wi_cell (by omega)]; exact oc k k8 (by omega)
        · have w8 : wi ω 262 ((i : Int) - a).toNat (lkF T n i) 260 8 = i - a := by rw [wi_cell (by omega)]; exact o8
          rw [w8]
          refine ⟨⟨by omega, by omega⟩, wl fun _ => hK _ (by omega) ⟨so.v.w (by omega), ?_, by rw [wi_self]; omega, fun k k8 kl => ?_⟩⟩
          · rw [wi_place (by omega), wi_cell (by omega)]; exact o4
          · rw [wi_cell (by omega)]
            by_cases q : k = ((i : Int) - a).toNat
            · rw [q, wi_self, li]; congr 1; omega
            · rw [wi_place q]; exact oc k k8 (by omega)
      · have ei : i = rnF T n 97 122 a := by
          have : ¬ i < rnF T n 97 122 a := fun q => y (ri.1.2 q)
          omega
        have w8 : wi ω 260 5 (i : Nat) 260 8 = (i : Int) - a := by rw [wi_place (by omega)]; exact o8
        rw [w8]
        have fin : ∀ K : Int, rcK (tkK T n a) = K → (tkK T n a = 1 → i ≤ a + 8) → tkK T n a ≠ 2 → Q (wi (wi ω 260 5 (i : Nat)) 260 6 K) := fun K eK l8 n2 => done _ ((so.w (by omega)).w (by omega)) (by rw [wi_place (by omega), wi_place (by omega)]; exact o4) (by rw [wi_place (by omega), wi_self, ks, ei]) (by rw [wi_self]; exact eK.symm) (fun k1 => ⟨by rw [wi_place (by omega), w8, ks, ei], fun k hk => by
          have := l8 k1
          rw [wi_cell (by omega), wi_cell (by omega)]; exact oc k (by omega) (by omega)⟩) (fun k2 => absurd k2 n2)
        refine ⟨fun y8 => wl fun _ => fin 2 ?_ (fun _ => by omega) ?_, fun y8 => wl fun _ => fin 1 ?_ (fun k1 => ?_) ?_⟩
        · rw [kk, if_pos (by omega)]; rfl
        · rw [kk, if_pos (by omega)]; decide
        · rw [kk, if_neg (by omega)]; rfl
        · rw [kk, if_neg (by omega)] at k1; exact absurd k1 (by decide)
        · rw [kk, if_neg (by omega)]; decide
    · -- digits
      have r := rnF_is T n 48 57 a
      have rl := isRn_le r sl
      rw [if_neg (by omega), if_neg (by omega), if_neg ns, if_pos dg] at kk
      rw [if_neg (by rintro (y | y) <;> omega), if_neg ns, if_pos dg] at ks
      refine up2a (n := ((rnF T n 48 57 a : Nat) : Int)) (fun i b ω => rS ξ ω ∧ ω 260 4 = a ∧ b = i - a ∧ (i ≤ a + 3 → ω 260 7 = whF T a (i - a).toNat)) (by have := r.1; omega) ⟨rS.rf ξ, x4, by omega, fun _ => by rw [Int.sub_self]; exact x7⟩ ?_
      rintro i b ω K i0 i1 ⟨so, o4, rfl, o7⟩ _ hK
      obtain ⟨i, rfl⟩ : ∃ m : Nat, i = m := ⟨i.toNat, by omega⟩
      have ri := run_in (T := T) (n := n) (a := a) (i := i) (lo := 48) (hi := 57) (by decide) (by omega) (by omega)
      have to := tx.n so
      refine ⟨⟨by omega, by omega⟩, r_lk7 to (fun _ _ => r_digit (fun y _ _ => ⟨fun z => absurd z (by decide), fun _ => ⟨⟨by omega, by omega⟩, ?_⟩⟩) (fun y _ _ => ⟨fun _ => wl fun _ => ⟨⟨by omega, by omega⟩, ?_⟩, fun z => absurd z (by decide)⟩))⟩
      · have lt := ri.1.1 y
        have li := (ri.2 lt).2
        refine ⟨fun y3 => ?_, fun y3 => r_lk7 to (fun _ _ => ?_)⟩
        · have := hK ((i : Int) - a + 1) ω (by omega) ⟨so, o4, by omega, fun q => by omega⟩
          exact this
        · have e7 := o7 (by omega)
          have bb := whF_b (T := T) (a := a) ((i : Int) - a).toNat (fun k hk => (r.2.1 (a + k) (by omega) (by omega)).2) (by omega)
          rw [e7, li]
          rw [li] at y
          refine ⟨⟨by omega, by omega⟩, wl fun _ => hK _ _ (by omega) ⟨so.w (by omega), by rw [wi_place (by omega)]; exact o4, by omega, fun _ => ?_⟩⟩
          rw [wi_self, show ((i : Int) + 1 - a).toNat = ((i : Int) - a).toNat + 1 by omega]
          show _ = 10 * whF T a ((i : Int) - a).toNat + T (a + ((i : Int) - a).toNat) - 48
          rw [show a + ((i : Int) - a).toNat = i by omega]
      · have ei : i = rnF T n 48 57 a := by
          have : ¬ i < rnF T n 48 57 a := fun q => y (ri.1.2 q)
          omega
        have fin : ∀ K : Int, rcK (tkK T n a) = K → (tkK T n a = 2 → i ≤ a + 3) → tkK T n a ≠ 1 → Q (wi (wi ω 260 5 (i : Nat)) 260 6 K) := fun K eK l3 n1 => done _ ((so.w (by omega)).w (by omega)) (by rw [wi_place (by omega), wi_place (by omega)]; exact o4) (by rw [wi_place (by omega), wi_self, ks, ei]) (by rw [wi_self]; exact eK.symm) (fun k1 => absurd k1 n1) (fun k2 => by
          have := l3 k2
          rw [wi_place (by omega), wi_place (by omega), o7 (by omega), ks, ← ei]; congr 1; omega)
        refine ⟨fun y3 => wl fun _ => fin 3 ?_ (fun _ => by omega) ?_, fun y3 => wl fun _ => fin 1 ?_ (fun k2 => ?_) ?_⟩
        · rw [kk, if_pos (by omega)]; rfl
        · rw [kk, if_pos (by omega)]; decide
        · rw [kk, if_neg (by omega)]; rfl
        · rw [kk, if_neg (by omega)] at k2; exact absurd k2 (by decide)
        · rw [kk, if_neg (by omega)]; decide
    · -- others
      have w1 : tkS7 T n a = a + 1 := by
        rw [ks]
        by_cases q : T a = 59 ∨ T a = 44
        · rw [if_pos q]
        · rw [if_neg q, if_neg ns, if_neg nd]
      have fin : ∀ K : Int, rcK (tkK T n a) = K → tkK T n a ≠ 1 → tkK T n a ≠ 2 → Q (wi (wi ξ 260 5 ((a : Int) + 1)) 260 6 K) := fun K eK n1 n2 => done _ (((rS.rf ξ).w (by omega)).w (by omega)) (by rw [wi_place (by omega), wi_place (by omega)]; exact x4) (by rw [wi_place (by omega), wi_self, w1]; omega) (by rw [wi_self]; exact eK.symm) (fun k => absurd k n1) (fun k => absurd k n2)
      refine ⟨fun y => wl fun _ => fin _ ?_ ?_ ?_, fun y => ⟨fun y2 => wl fun _ => fin _ ?_ ?_ ?_, fun y2 => wl fun _ => fin _ ?_ ?_ ?_⟩⟩
      · rw [kk, if_pos y, y]; rfl
      · rw [kk, if_pos y]; decide
      · rw [kk, if_pos y]; decide
      · rw [kk, if_neg y, if_neg y2, if_neg ns, if_neg nd]; rfl
      · rw [kk, if_neg y, if_neg y2, if_neg ns, if_neg nd]; decide
      · rw [kk, if_neg y, if_neg y2, if_neg ns, if_neg nd]; decide
      · rw [kk, if_neg y, if_pos y2, y2]; rfl
      · rw [kk, if_neg y, if_pos y2]; decide
      · rw [kk, if_neg y, if_pos y2]; decide
  · have kk : tkK T n a = 0 := by unfold tkK; rw [if_neg c]
    have ks : tkS7 T n a = a := by unfold tkS7; rw [if_neg c]
    have lk : lkF T n a = -1 := by unfold lkF; rw [if_neg c]
    rw [lk]
    refine ⟨fun y => absurd rfl y, fun _ => wl fun _ => wl fun _ => done _ (((rS.rf ξ).w (by omega)).w (by omega)) ?_ ?_ ?_ (fun k => ?_) (fun k => ?_)⟩
    · rw [wi_place (by omega), wi_place (by omega)]; exact x4
    · rw [wi_self, ks]
    · rw [wi_place (by omega), wi_self, kk]; rfl
    · rw [kk] at k; exact absurd k (by decide)
    · rw [kk] at k; exact absurd k (by decide)
