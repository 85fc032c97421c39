/-! the inn's text: tokens -/
def skp (T : Nat → Int) (n : Nat) : Nat → Nat → Nat
  | 0, p => p
  | m + 1, p => if p < n ∧ T p = 32 then skp T n m (p + 1) else p
def rnE (T : Nat → Int) (n : Nat) (lo hi : Int) : Nat → Nat → Nat
  | 0, p => p
  | m + 1, p => if p < n ∧ lo ≤ T p ∧ T p ≤ hi then rnE T n lo hi m (p + 1) else p
def isSk (T : Nat → Int) (n p a : Nat) : Prop := p ≤ a ∧ (∀ i, p ≤ i → i < a → i < n ∧ T i = 32) ∧ ¬ (a < n ∧ T a = 32)
def isRn (T : Nat → Int) (n : Nat) (lo hi : Int) (p a : Nat) : Prop := p ≤ a ∧ (∀ i, p ≤ i → i < a → i < n ∧ lo ≤ T i ∧ T i ≤ hi) ∧ ¬ (a < n ∧ lo ≤ T a ∧ T a ≤ hi)
theorem skp_is (T : Nat → Int) (n : Nat) : ∀ m p : Nat, n ≤ p + m → isSk T n p (skp T n m p) := by
  intro m
  induction m with
  | zero => intro p h; exact ⟨Nat.le_refl _, fun i a b => by simp only [skp] at b; omega, fun z => by simp only [skp] at z; omega⟩
  | succ m ih =>
    intro p h
    simp only [skp]
    by_cases c : p < n ∧ T p = 32
    · rw [if_pos c]
      obtain ⟨a, b, d⟩ := ih (p + 1) (by omega)
      refine ⟨by omega, fun i x y => ?_, d⟩
      by_cases q : i = p
      · rw [q]; exact c
      · exact b i (by omega) y
    · rw [if_neg c]; exact ⟨Nat.le_refl _, fun i a b => by omega, c⟩
theorem rnE_is (T : Nat → Int) (n : Nat) (lo hi : Int) : ∀ m p : Nat, n ≤ p + m → isRn T n lo hi p (rnE T n lo hi m p) := by
  intro m
  induction m with
  | zero => intro p h; exact ⟨Nat.le_refl _, fun i a b => by simp only [rnE] at b; omega, fun z => by simp only [rnE] at z; omega⟩
  | succ m ih =>
    intro p h
    simp only [rnE]
    by_cases c : p < n ∧ lo ≤ T p ∧ T p ≤ hi
    · rw [if_pos c]
      obtain ⟨a, b, d⟩ := ih (p + 1) (by omega)
      refine ⟨by omega, fun i x y => ?_, d⟩
      by_cases q : i = p
      · rw [q]; exact c
      · exact b i (by omega) y
    · rw [if_neg c]; exact ⟨Nat.le_refl _, fun i a b => by omega, c⟩
theorem isSk_u {T : Nat → Int} {n p a b : Nat} (h : isSk T n p a) (h2 : isSk T n p b) : a = b := by
  rcases Nat.lt_trichotomy a b with q | q | q
  · exact absurd (h2.2.1 a h.1 q) h.2.2
  · exact q
  · exact absurd (h.2.1 b h2.1 q) h2.2.2
theorem isRn_u {T : Nat → Int} {n p a b : Nat} {lo hi : Int} (h : isRn T n lo hi p a) (h2 : isRn T n lo hi p b) : a = b := by
  rcases Nat.lt_trichotomy a b with q | q | q
  · exact absurd (h2.2.1 a h.1 q) h.2.2
  · exact q
  · exact absurd (h.2.1 b h2.1 q) h2.2.2
def skF (T : Nat → Int) (n p : Nat) : Nat := skp T n n p
def rnF (T : Nat → Int) (n : Nat) (lo hi : Int) (p : Nat) : Nat := rnE T n lo hi n p
theorem skF_is (T : Nat → Int) (n p : Nat) : isSk T n p (skF T n p) := skp_is T n n p (by omega)
theorem rnF_is (T : Nat → Int) (n : Nat) (lo hi : Int) (p : Nat) : isRn T n lo hi p (rnF T n lo hi p) := rnE_is T n lo hi n p (by omega)
theorem isSk_le {T : Nat → Int} {n p a : Nat} (h : isSk T n p a) (hp : p ≤ n) : a ≤ n := by
  rcases Nat.lt_or_ge n a with q | q
  · have := (h.2.1 n hp q).1; omega
  · exact q
theorem isRn_le {T : Nat → Int} {n p a : Nat} {lo hi : Int} (h : isRn T n lo hi p a) (hp : p ≤ n) : a ≤ n := by
  rcases Nat.lt_or_ge n a with q | q
  · have := (h.2.1 n hp q).1; omega
  · exact q
/-- where the token ends that begins at a; which it is -/
def tkS7 (T : Nat → Int) (n a : Nat) : Nat :=
  if a < n then (if T a = 59 ∨ T a = 44 then a + 1 else if 97 ≤ T a ∧ T a ≤ 122 then rnF T n 97 122 a else if 48 ≤ T a ∧ T a ≤ 57 then rnF T n 48 57 a else a + 1) else a
def tkK (T : Nat → Int) (n a : Nat) : Int :=
  if a < n then (if T a = 59 then 3 else if T a = 44 then 4 else if 97 ≤ T a ∧ T a ≤ 122 then (if rnF T n 97 122 a ≤ a + 8 then 1 else 5) else if 48 ≤ T a ∧ T a ≤ 57 then (if rnF T n 48 57 a ≤ a + 3 then 2 else 5) else 5) else 0
def nxF (T : Nat → Int) (n a : Nat) : Nat := skF T n (tkS7 T n a)
theorem tkS7_le {T : Nat → Int} {n a : Nat} (h : a ≤ n) : a ≤ tkS7 T n a ∧ tkS7 T n a ≤ n ∧ (a < n → a < tkS7 T n a) := by
  have r1 := rnF_is T n 97 122 a
  have r2 := rnF_is T n 48 57 a
  have l1 := isRn_le r1 h
  have l2 := isRn_le r2 h
  unfold tkS7
  by_cases c : a < n
  · rw [if_pos c]
    by_cases c1 : T a = 59 ∨ T a = 44
    · rw [if_pos c1]; omega
    · rw [if_neg c1]
      by_cases c2 : 97 ≤ T a ∧ T a ≤ 122
      · rw [if_pos c2]
        have : rnF T n 97 122 a ≠ a := fun z => by rw [z] at r1; exact r1.2.2 ⟨c, c2⟩
        have := r1.1
        omega
      · rw [if_neg c2]
        by_cases c3 : 48 ≤ T a ∧ T a ≤ 57
        · rw [if_pos c3]
          have : rnF T n 48 57 a ≠ a := fun z => by rw [z] at r2; exact r2.2.2 ⟨c, c3⟩
          have := r2.1
          omega
        · rw [if_neg c3]; omega
  · rw [if_neg c]; omega
theorem nxF_le {T : Nat → Int} {n a : Nat} (h : a ≤ n) : nxF T n a ≤ n ∧ a ≤ nxF T n a ∧ (a < n → a < nxF T n a) := by
  have s := tkS7_le (T := T) h
  have k := skF_is T n (tkS7 T n a)
  have := isSk_le k s.2.1
  have := k.1
  unfold nxF
  refine ⟨by omega, by omega, fun z => ?_⟩
  have := s.2.2 z
  omega
/-! the class's tokens -/
def tpe (T : Nat → Int) (n : Nat) (ν : xM) : Prop := n ≤ 900 ∧ ν 35 9 = n ∧ (∀ i, i < n → ν 36 i = T i) ∧ (∀ i, i < n → 0 ≤ T i ∧ T i ≤ 255)
def tC (T : Nat → Int) (n a : Nat) (ν : xM) : Prop := tpe T n ν ∧ a ≤ n ∧ ν 35 11 = a ∧ ν 35 12 = tkS7 T n a ∧ ν 35 10 = tkK T n a
def nS (μ ν : xM) : Prop := (∀ k, k ≠ 35 → ν k = μ k) ∧ (∀ j, ¬ (10 ≤ j ∧ j ≤ 12) → ν 35 j = μ 35 j)
theorem nS.tt {μ ν ω : xM} (h : nS μ ν) (h2 : nS ν ω) : nS μ ω := ⟨fun k a => (h2.1 k a).trans (h.1 k a), fun j a => (h2.2 j a).trans (h.2 j a)⟩
theorem tpe.n {T : Nat → Int} {n : Nat} {μ ν : xM} (h : tpe T n μ) (s : nS μ ν) : tpe T n ν := ⟨h.1, by rw [s.2 9 (by omega)]; exact h.2.1, fun i hi => by rw [s.1 36 (by omega)]; exact h.2.2.1 i hi, h.2.2.2⟩
theorem s_byte {T : Nat → Int} {n i : Nat} {ν : xM} {Q : Int → xM → Prop} (h : tpe T n ν) (hi : i < n) (hq : Q (T i) ν) : tX5_byteAt i ν Q := by
  have := h.1
  intro _ _
  refine ⟨fun z => by omega, fun _ => ⟨fun z => by omega, fun _ => ⟨⟨by omega, by omega⟩, ?_⟩⟩⟩
  rw [Int.toNat_natCast, h.2.2.1 i hi]; exact hq
theorem s_byteAny {i : Nat} {ν : xM} {Q : Int → xM → Prop} (hq : ∀ x, Q x ν) : tX5_byteAt i ν Q := fun _ _ => ⟨fun _ => hq _, fun z => ⟨fun _ => hq _, fun z2 => ⟨⟨by omega, by omega⟩, hq _⟩⟩⟩
theorem s_runEnd {T : Nat → Int} {n a : Nat} {lo hi : Int} {ν : xM} {Q : Int → xM → Prop} (h : tpe T n ν) (ha : ν 35 11 = a) (hn : a ≤ n) (hq : Q (rnF T n lo hi a : Nat) ν) : tX5_runEnd lo hi ν Q := by
  have n9 := h.1
  have r := rnF_is T n lo hi a
  have rl := isRn_le r hn
  intro _ _ _
  rw [ha]
  refine rd1 (n := (rnF T n lo hi a : Int)) (fun i => True) (by have := r.1; omega) trivial ?_
  rintro i K i0 i1 _ hK
  obtain ⟨i, rfl⟩ : ∃ m : Nat, i = m := ⟨i.toNat, by omega⟩
  rw [h.2.1]
  have fin : i = rnF T n lo hi a → Q (i : Nat) ν := fun z => by rw [z]; exact hq
  refine ⟨⟨by omega, by omega⟩, fun d => fin (by omega), fun d => s_byte h (by omega) (fun _ _ => ?_)⟩
  by_cases c : lo ≤ T i ∧ T i ≤ hi
  · have : i ≠ rnF T n lo hi a := fun z => r.2.2 (by rw [← z]; exact ⟨by omega, c⟩)
    refine ⟨fun z => by omega, fun _ => s_byte h (by omega) (fun _ _ => ⟨fun z => by omega, fun _ => hK (by omega) trivial⟩)⟩
  · have : i = rnF T n lo hi a := by
      rcases Nat.lt_or_ge i (rnF T n lo hi a) with z | z
      · exact absurd (r.2.1 i (by omega) z).2 c
      · omega
    refine ⟨fun _ => fin this, fun z => s_byte h (by omega) (fun _ _ => ⟨fun _ => fin this, fun z2 => absurd ⟨by omega, by omega⟩ c⟩)⟩
theorem s_next {T : Nat → Int} {n p : Nat} {ν : xM} {Q : xM → Prop} (h : tpe T n ν) (hp : ν 35 12 = p) (hn : p ≤ n) (hq : ∀ ω, nS ν ω → tC T n (skF T n p) ω → Q ω) : tX5_next ν Q := by
  have n9 := h.1
  have sk := skF_is T n p
  have sl := isSk_le sk hn
  obtain ⟨a, ea⟩ : ∃ a, a = skF T n p := ⟨_, rfl⟩
  rw [← ea] at sk sl hq
  have tl := tkS7_le (T := T) sl
  have b45 : ∀ ξ, nS ν ξ → ξ 35 11 = a → tX5_next_b45 ξ Q := by
    intro ξ s e _
    have tx := h.n s
    rw [e]
    refine ⟨⟨by omega, by omega⟩, wl fun _ => ?_⟩
    obtain ⟨ξ1, e1⟩ : ∃ ξ1, ξ1 = wi ξ 35 12 ((a : Int) + 1) := ⟨_, rfl⟩
    rw [← e1]
    have s1 : nS ξ ξ1 := ⟨fun k hk => by rw [e1]; funext j; exact wi_cell hk, fun j hj => by rw [e1]; exact wi_place (by omega)⟩
    have t1 := tx.n s1
    have a1 : ξ1 35 11 = a := by rw [e1, wi_place (by omega)]; exact e
    have p1 : ξ1 35 12 = (a : Int) + 1 := by rw [e1, wi_self]
    have done : ∀ (ω : xM) (S K : Int), nS ξ1 ω → ω 35 11 = a → ω 35 12 = S → ω 35 10 = K → S = tkS7 T n a → K = tkK T n a → Q ω := fun ω S K so x y z u v => hq ω ((s.tt s1).tt so) ⟨h.n ((s.tt s1).tt so), sl, x, y.trans u, z.trans v⟩
    have nw : ∀ (j : Nat) (v : Int), 10 ≤ j ∧ j ≤ 12 → nS ξ1 (wi ξ1 35 j v) := fun j v hj => ⟨fun k hk => by funext i; exact wi_cell hk, fun i hi => wi_place (by omega)⟩
    have one : ∀ K : Int, K = tkK T n a → (a : Int) + 1 = tkS7 T n a → ∀ ω : xM, ω = wi ξ1 35 10 K → xRan ω → Q ω := fun K hK hS => wl fun _ => done _ _ K (nw 10 K (by omega)) (by rw [wi_place (by omega)]; exact a1) (by rw [wi_place (by omega)]; exact p1) (wi_self _ _ _ _) hS hK
    rw [a1]
    by_cases c : a < n
    · have kk : tkK T n a = if T a = 59 then 3 else if T a = 44 then 4 else if 97 ≤ T a ∧ T a ≤ 122 then (if rnF T n 97 122 a ≤ a + 8 then 1 else 5) else if 48 ≤ T a ∧ T a ≤ 57 then (if rnF T n 48 57 a ≤ a + 3 then 2 else 5) else 5 := by unfold tkK; rw [if_pos c]
      have ks : tkS7 T n a = if T a = 59 ∨ T a = 44 then a + 1 else if 97 ≤ T a ∧ T a ≤ 122 then rnF T n 97 122 a else if 48 ≤ T a ∧ T a ≤ 57 then rnF T n 48 57 a else a + 1 := by unfold tkS7; rw [if_pos c]
      have run : ∀ (lo hi : Int) (K : Int), tkS7 T n a = rnF T n lo hi a → ∀ lim : Int, (K = 1 ∨ K = 2) → ((rnF T n lo hi a : Int) - a ≤ lim → tkK T n a = K) → (¬ (rnF T n lo hi a : Int) - a ≤ lim → tkK T n a = 5) → tX5_runEnd lo hi ξ1 (fun r55 μ53 => (xIn r55) → xRan μ53 → (∀ μ57 : xM, μ57 = wi μ53 35 12 r55 → xRan μ57 → ((xIn ((μ57 35 12) - (μ57 35 11))) ∧ (((lim < ((μ57 35 12) - (μ57 35 11)) → ∀ μ64 : xM, μ64 = wi μ57 35 10 5 → xRan μ64 → (Q μ64)) ∧ (¬ lim < ((μ57 35 12) - (μ57 35 11)) → ∀ μ67 : xM, μ67 = wi μ57 35 10 K → xRan μ67 → (Q μ67))))))) := by
        intro lo hi K hs lim _ h1 h5
        refine s_runEnd t1 a1 sl (fun _ _ => wl fun _ => ?_)
        have q12 : wi ξ1 35 12 (rnF T n lo hi a : Nat) 35 12 = (rnF T n lo hi a : Nat) := wi_self _ _ _ _
        have q11 : wi ξ1 35 12 (rnF T n lo hi a : Nat) 35 11 = a := by rw [wi_place (by omega)]; exact a1
        rw [q12, q11]
        have rl := isRn_le (rnF_is T n lo hi a) sl
        have fin : ∀ K' : Int, K' = tkK T n a → Q (wi (wi ξ1 35 12 (rnF T n lo hi a : Nat)) 35 10 K') := fun K' hK' => done _ ((rnF T n lo hi a : Nat) : Int) K' ⟨fun k hk => by funext i; rw [wi_cell hk, wi_cell hk], fun i hi => by rw [wi_place (by omega), wi_place (by omega)]⟩ (by rw [wi_place (by omega)]; exact q11) (by rw [wi_place (by omega)]; exact q12) (wi_self _ _ _ _) (by rw [hs]) hK'
        exact ⟨⟨by omega, by omega⟩, fun z => wl fun _ => fin 5 (h5 (by omega)).symm, fun z => wl fun _ => fin K (h1 (by omega)).symm⟩
      refine s_byte t1 c (fun _ _ => ?_)
      rw [a1, t1.2.1]
      have b0 := h.2.2.2 a c
      refine ⟨fun _ => ⟨fun n59 => ⟨fun n44 => ?_, fun e44 => one 4 (by rw [kk, if_neg (by omega), if_pos e44]) (by rw [ks, if_pos (Or.inr e44)]; omega)⟩, fun e59 => one 3 (by rw [kk, if_pos e59]) (by rw [ks, if_pos (Or.inl e59)]; omega)⟩, fun z => absurd (by omega) z⟩
      have ks2 : tkS7 T n a = if 97 ≤ T a ∧ T a ≤ 122 then rnF T n 97 122 a else if 48 ≤ T a ∧ T a ≤ 57 then rnF T n 48 57 a else a + 1 := by rw [ks, if_neg (by rintro (z | z) <;> omega)]
      have kk2 : tkK T n a = if 97 ≤ T a ∧ T a ≤ 122 then (if rnF T n 97 122 a ≤ a + 8 then 1 else 5) else if 48 ≤ T a ∧ T a ≤ 57 then (if rnF T n 48 57 a ≤ a + 3 then 2 else 5) else 5 := by rw [kk, if_neg n59, if_neg n44]
      have b169 : ¬ (97 ≤ T a ∧ T a ≤ 122) → tX5_next_b169 (T a) ξ1 Q := by
        intro z _
        rw [if_neg z] at ks2 kk2
        have bad : ¬ (48 ≤ T a ∧ T a ≤ 57) → ∀ ω : xM, ω = wi ξ1 35 10 5 → xRan ω → Q ω := fun y => one 5 (by rw [kk2, if_neg y]) (by rw [ks2, if_neg y]; omega)
        refine ⟨⟨by omega, by omega⟩, fun y => bad (by omega), fun y => ⟨fun y2 => bad (by omega), fun y2 => ?_⟩⟩
        have dg : 48 ≤ T a ∧ T a ≤ 57 := ⟨by omega, by omega⟩
        rw [if_pos dg] at ks2 kk2
        exact run 48 57 2 ks2 3 (Or.inr rfl) (fun u => by rw [kk2, if_pos (by omega)]) (fun u => by rw [kk2, if_neg (by omega)])
      refine ⟨fun y => b169 (by omega), fun y => ⟨fun y2 => b169 (by omega), fun y2 => ?_⟩⟩
      have sm : 97 ≤ T a ∧ T a ≤ 122 := ⟨by omega, by omega⟩
      rw [if_pos sm] at ks2 kk2
      exact run 97 122 1 ks2 8 (Or.inl rfl) (fun u => by rw [kk2, if_pos (by omega)]) (fun u => by rw [kk2, if_neg (by omega)])
    · have kk : tkK T n a = 0 := by unfold tkK; rw [if_neg c]
      have ks : tkS7 T n a = a := by unfold tkS7; rw [if_neg c]
      refine s_byteAny (fun x _ _ => ?_)
      rw [a1, t1.2.1]
      refine ⟨fun z => absurd z (by omega), fun _ => wl fun _ => wl fun _ => done _ a 0 ⟨fun k hk => by funext i; rw [wi_cell hk, wi_cell hk], fun i hi => by rw [wi_place (by omega), wi_place (by omega)]⟩ ?_ ?_ (wi_self _ _ _ _) (by rw [ks]) kk.symm⟩
      · rw [wi_place (by omega), wi_place (by omega)]; exact a1
      · rw [wi_place (by omega), wi_self]
  intro _
  refine wl fun _ => ?_
  refine ⟨fun m ξ => ∃ i : Nat, nS ν ξ ∧ ξ 35 11 = i ∧ p ≤ i ∧ i ≤ a ∧ m = a - i, ⟨_, p, ⟨fun k hk => by funext j; exact wi_cell hk, fun j hj => wi_place (by omega)⟩, by rw [wi_self]; exact hp, Nat.le_refl _, sk.1, rfl⟩, ?_⟩
  rintro m ξ ⟨i, s, e, i0, i1, rfl⟩ _
  have tx := h.n s
  rw [tx.2.1, e]
  refine ⟨fun z => b45 ξ s ?_, fun z => s_byte tx (by omega) (fun _ _ => ⟨fun y => b45 ξ s ?_, fun y => ?_⟩)⟩
  · rw [e]
    have : i = a := by
      rcases Nat.lt_or_ge i a with q | q
      · have := (sk.2.1 i i0 q).1; omega
      · omega
    rw [this]
  · rw [e]
    have : i = a := by
      rcases Nat.lt_or_ge i a with q | q
      · exact absurd (sk.2.1 i i0 q).2 y
      · omega
    rw [this]
  · have lt : i < a := by
      rcases Nat.lt_or_ge i a with q | q
      · exact q
      · have : i = a := by omega
        subst this
        exact absurd ⟨by omega, y⟩ sk.2.2
    rw [e]
    exact ⟨⟨by omega, by omega⟩, wl fun _ => ⟨a - (i + 1), by omega, i + 1, ⟨fun k hk => by rw [← s.1 k hk]; funext j; exact wi_cell hk, fun j hj => by rw [wi_place (by omega)]; exact s.2 j hj⟩, by rw [wi_self]; omega, by omega, by omega, rfl⟩⟩
