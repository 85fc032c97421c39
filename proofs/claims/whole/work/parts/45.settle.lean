/-! chains and grundies, from the longest words on -/
def lnF (R : Nat → Int) (u : Nat) : Int := if u = 24 then 0 else R (7 + u)
def domF (R : Nat → Int) (u : Nat) : Prop := (u : Int) < R 3 ∨ u = 24
theorem ups_ln {R : Nat → Int} (hR : okR R) {u v : Nat} (h : v ∈ upsF R u) : (v : Int) < R 3 ∧ lnF R v = lnF R u + 1 ∧ v ≠ 24 := by
  have bW := hR.W
  have g := byF_ge (upsF_mem.1 h).2
  have gv := g.1.1
  refine ⟨gv, ?_, by omega⟩
  unfold lnF
  rw [if_neg (by omega)]
  rcases g.2 with q | q
  · rw [if_pos q.1, q.2]; rfl
  · rw [if_neg q.1, q.2.2]
theorem lnF_rng {R : Nat → Int} (hR : okR R) {u : Nat} (h : domF R u) : 0 ≤ lnF R u ∧ lnF R u ≤ 6 := by
  unfold lnF
  split
  · omega
  · rcases h with h | h
    · have := hR.len h; omega
    · omega
set_option maxRecDepth 100000 in
theorem or_lt0 : ∀ m : Fin 8, ∀ s : Fin 128, ∀ c : Fin 7, (s.val : Int) < (2 : Int) ^ m.val → c.val < m.val → 0 ≤ xOr (s.val : Int) (xShl 1 (c.val : Int)) ∧ xOr (s.val : Int) (xShl 1 (c.val : Int)) < (2 : Int) ^ m.val := by decide +kernel
set_option maxRecDepth 100000 in
theorem no_bit0 : ∀ m : Fin 8, ∀ s : Fin 128, (s.val : Int) < (2 : Int) ^ m.val → ¬ xAnd (xShr (s.val : Int) (m.val : Int)) 1 = 1 := by decide +kernel
theorem pw128 {m : Int} (h0 : 0 ≤ m) (h1 : m ≤ 7) : pw m ≤ 128 := by
  have : ∀ k : Fin 8, (2 : Int) ^ k.val ≤ 128 := by decide
  exact this ⟨m.toNat, by omega⟩
theorem or_lt {m s c : Int} (m0 : 0 ≤ m) (m1 : m ≤ 7) (s0 : 0 ≤ s) (s1 : s < pw m) (c0 : 0 ≤ c) (c1 : c < m) : 0 ≤ xOr s (xShl 1 c) ∧ xOr s (xShl 1 c) < pw m := by
  have b := pw128 m0 m1
  have q := or_lt0 ⟨m.toNat, by omega⟩ ⟨s.toNat, by omega⟩ ⟨c.toNat, by omega⟩ (by show (s.toNat : Int) < 2 ^ m.toNat; unfold pw at s1; omega) (by show c.toNat < m.toNat; omega)
  simp only [Int.toNat_of_nonneg s0, Int.toNat_of_nonneg c0] at q
  exact q
theorem no_bit {m s : Int} (m0 : 0 ≤ m) (m1 : m ≤ 7) (s0 : 0 ≤ s) (s1 : s < pw m) : ¬ xAnd (xShr s m) 1 = 1 := by
  have b := pw128 m0 m1
  have q := no_bit0 ⟨m.toNat, by omega⟩ ⟨s.toNat, by omega⟩ (by show (s.toNat : Int) < 2 ^ m.toNat; unfold pw at s1; omega)
  simp only [Int.toNat_of_nonneg s0, Int.toNat_of_nonneg m0] at q
  exact q
theorem setL_lt {c : Nat → Int} {m : Int} (m0 : 0 ≤ m) (m1 : m ≤ 7) : ∀ l : List Nat, (∀ v ∈ l, 0 ≤ c v ∧ c v < m) → 0 ≤ setL c l ∧ setL c l < pw m := by
  have : ∀ (l : List Nat) (a : Int), 0 ≤ a → a < pw m → (∀ v ∈ l, 0 ≤ c v ∧ c v < m) → 0 ≤ l.foldl (fun a v => xOr a (xShl 1 (c v))) a ∧ l.foldl (fun a v => xOr a (xShl 1 (c v))) a < pw m := by
    intro l
    induction l with
    | nil => intro a a0 a1 _; exact ⟨a0, a1⟩
    | cons v l ih =>
      intro a a0 a1 h
      have hv := h v (by simp)
      have q := or_lt m0 m1 a0 a1 hv.1 hv.2
      exact ih _ q.1 q.2 (fun w hw => h w (by simp [hw]))
  intro l h
  exact this l 0 (by omega) (by have := (pw_le m0 (by omega)).1; omega) h
theorem mexN_le {s : Int} {m : Nat} (h : ¬ xAnd (xShr s (m : Int)) 1 = 1) : ∀ f k : Nat, k ≤ m → m ≤ k + f → k ≤ mexN s f k ∧ mexN s f k ≤ m := by
  intro f
  induction f with
  | zero => intro k a b; simp only [mexN]; omega
  | succ f ih =>
    intro k a b
    simp only [mexN]
    split
    · rename_i q
      by_cases e : k = m
      · subst e; exact absurd q h
      · have := ih (k + 1) (by omega) (by omega); omega
    · omega
theorem mexF_le {s m : Int} (m0 : 0 ≤ m) (m1 : m ≤ 6) (s0 : 0 ≤ s) (s1 : s < pw m) : 0 ≤ mexF s ∧ mexF s ≤ m := by
  have q := mexN_le (s := s) (m := m.toNat) (by rw [Int.toNat_of_nonneg m0]; exact no_bit m0 (by omega) s0 s1) 31 0 (by omega) (by omega)
  unfold mexF
  omega
theorem mxL_le {f : Nat → Int} {m : Int} (m0 : 0 ≤ m) : ∀ l : List Nat, (∀ v ∈ l, f v ≤ m) → 0 ≤ mxL f l ∧ mxL f l ≤ m := by
  have : ∀ (l : List Nat) (a : Int), 0 ≤ a → a ≤ m → (∀ v ∈ l, f v ≤ m) → 0 ≤ l.foldl (fun a v => max a (f v)) a ∧ l.foldl (fun a v => max a (f v)) a ≤ m := by
    intro l
    induction l with
    | nil => intro a a0 a1 _; exact ⟨a0, a1⟩
    | cons v l ih =>
      intro a a0 a1 h
      have hv := h v (by simp)
      exact ih (max a (f v)) (by omega) (by omega) (fun w hw => h w (by simp [hw]))
  intro l h
  exact this l 0 (by omega) m0 h
theorem s_least {μ : xM} {s : Int} {Q : Int → xM → Prop} (hq : Q (mexF s) μ) : tX1_leastWithout s μ Q := by
  intro _ _
  refine rd1 (n := 31) (fun k => mexF s = mexN s (31 - k.toNat) k.toNat) (by omega) rfl ?_
  intro k K k0 k1 hP hK
  refine ⟨⟨by omega, by omega⟩, fun c => ?_, fun c => ⟨fun d => ?_, fun d => hK (by omega) ?_⟩⟩
  · rw [hP, show 31 - k.toNat = 0 by omega, mexN, Int.toNat_of_nonneg k0] at hq; exact hq
  · rw [hP, show 31 - k.toNat = (31 - (k.toNat + 1)) + 1 by omega, mexN, Int.toNat_of_nonneg k0, if_neg d, Int.toNat_of_nonneg k0] at hq; exact hq
  · rw [hP, show 31 - k.toNat = (31 - (k.toNat + 1)) + 1 by omega, mexN, Int.toNat_of_nonneg k0, if_pos d, show (k + 1).toNat = k.toNat + 1 by omega]
def upI (a b : Nat → Int) (R : Nat → Int) (P : Nat → Prop) : Prop := ∀ u : Nat, domF R u → P u → a u = mxL (fun v => a v + 1) (upsF R u) ∧ b u = mexF (setL b (upsF R u)) ∧ 0 ≤ a u ∧ a u ≤ 6 - lnF R u ∧ 0 ≤ b u ∧ b u ≤ 6 - lnF R u
/-- one more is told -/
theorem upI_put {a b a' b' : Nat → Int} {R : Nat → Int} {P : Nat → Prop} {n : Int} {w : Nat} (hR : okR R) (h : upI a b R P) (hP : ∀ u, domF R u → n < lnF R u → P u) (hP2 : ∀ u, domF R u → P u → n ≤ lnF R u) (hw : domF R w → lnF R w = n) (ha : ∀ u, u ≠ w → a' u = a u) (hb : ∀ u, u ≠ w → b' u = b u)
    (ea : a' w = mxL (fun v => a v + 1) (upsF R w)) (eb : b' w = mexF (setL b (upsF R w))) : upI a' b' R (fun u => P u ∨ u = w) := by
  have ne : ∀ u, domF R u → n ≤ lnF R u → ∀ v ∈ upsF R u, v ≠ w := by
    rintro u du hu v hv rfl
    have q := ups_ln hR hv
    have := hw (Or.inl q.1)
    omega
  have ca : ∀ u, domF R u → n ≤ lnF R u → mxL (fun v => a' v + 1) (upsF R u) = mxL (fun v => a v + 1) (upsF R u) := fun u du hu => foldl_c _ _ (fun x v hv => by show max x (a' v + 1) = max x (a v + 1); rw [ha v (ne u du hu v hv)])
  have cb : ∀ u, domF R u → n ≤ lnF R u → setL b' (upsF R u) = setL b (upsF R u) := fun u du hu => foldl_c _ _ (fun x v hv => by show xOr x (xShl 1 (b' v)) = xOr x (xShl 1 (b v)); rw [hb v (ne u du hu v hv)])
  intro u du hu
  by_cases e : u = w
  · subst e
    have hn := hw du
    have r := lnF_rng hR du
    rw [ca u du (by omega), cb u du (by omega)]
    have up : ∀ v ∈ upsF R u, 0 ≤ a v ∧ a v + 1 ≤ 6 - n ∧ 0 ≤ b v ∧ b v < 6 - n := by
      intro v hv
      have q := ups_ln hR hv
      have i := h v (Or.inl q.1) (hP v (Or.inl q.1) (by omega))
      omega
    have m0 : 0 ≤ 6 - n := by omega
    have q1 := mxL_le (f := fun v => a v + 1) m0 (upsF R u) (fun v hv => (up v hv).2.1)
    have q2 := setL_lt (c := b) (m := 6 - n) m0 (by omega) (upsF R u) (fun v hv => ⟨(up v hv).2.2.1, (up v hv).2.2.2⟩)
    have q3 := mexF_le m0 (by omega) q2.1 q2.2
    rw [ea, eb]
    refine ⟨rfl, rfl, q1.1, by omega, q3.1, by omega⟩
  · have pu := hu.resolve_right e
    have hl := hP2 u du pu
    rw [ca u du hl, cb u du hl, ha u e, hb u e]
    exact h u du pu
theorem mxL_snoc {f : Nat → Int} {l : List Nat} {v : Nat} : mxL f (l ++ [v]) = max (mxL f l) (f v) := by simp [mxL]
theorem setL_snoc {c : Nat → Int} {l : List Nat} {v : Nat} : setL c (l ++ [v]) = xOr (setL c l) (xShl 1 (c v)) := by simp [setL]
theorem setL_in {c : Nat → Int} : ∀ l : List Nat, xIn (setL c l) := by
  have : ∀ (l : List Nat) (a : Int), xIn a → xIn (l.foldl (fun a v => xOr a (xShl 1 (c v))) a) := by
    intro l
    induction l with
    | nil => intro a h; exact h
    | cons v l ih => intro a _; exact ih _ (xOr_in _ _)
  exact fun l => this l 0 xIn0
theorem upsF_upL {R : Nat → Int} {w : Nat} : upsF R w = upL R w 24 := rfl
theorem upsF_non {R : Nat → Int} {w : Nat} (h : ¬ domF R w) : upsF R w = [] := by
  unfold upsF
  rw [List.filter_eq_nil_iff]
  intro v _
  have : byF R w v = -1 := byF_no (fun z => h (by
    rcases z.1 with q | q
    · exact Or.inr q
    · exact Or.inl q.1))
  simp [this]
theorem s_lookUp {μ : xM} {R : Nat → Int} {n : Int} {Q : xM → Prop} (h : iHo μ R) (hl : lnk μ R 25 0) (n0 : 0 ≤ n) (n6 : n ≤ 6) (hu : upI (μ 205) (μ 206) R (fun u => n < lnF R u))
    (hq : ∀ ν, (∀ k, k ≠ 205 → k ≠ 206 → ν k = μ k) → upI (ν 205) (ν 206) R (fun u => n ≤ lnF R u) → Q ν) : tX1_lookUp n μ Q := by
  have hR := h.1
  have bW := hR.W
  intro _ _
  refine up1 (n := 25) (fun w ν => (∀ k, k ≠ 205 → k ≠ 206 → ν k = μ k) ∧ upI (ν 205) (ν 206) R (fun u => n < lnF R u ∨ (lnF R u = n ∧ (u : Int) < w))) (by omega) ⟨fun _ _ _ => rfl, fun u du hu2 => hu u du (by omega)⟩ ?_
  rintro w ν K w0 w1 ⟨f, hI⟩ _ hK
  have hh : iHo ν R := iHo_c (fun k _ _ => f k (by omega) (by omega)) h
  refine ⟨⟨by omega, by omega⟩, fun c => hq ν f (fun u du hu => hI u du ?_), fun c => ?_⟩
  · have : (u : Int) < 25 := by rcases du with q | q <;> omega
    omega
  · have skip : ¬ (domF R w.toNat ∧ lnF R w.toNat = n) → K (w + 1) ν := by
      intro q
      refine hK _ (by omega) ⟨f, fun u du hu => hI u du ?_⟩
      by_cases e : u = w.toNat
      · subst e
        rcases hu with hu | hu
        · exact Or.inl hu
        · exact absurd ⟨du, hu.1⟩ q
      · omega
    have go : (domF R w.toNat → lnF R w.toNat = n) → xLoop3 0 0 0 ν (fun J31 l3_11 l4_12 l5_13 μ14 =>
  (0 ≤ w ∧ w < 25) ∧ ((xIn l5_13) ∧ ((((μ14 178 w.toNat) ≤ l5_13 → (xIn l3_11) ∧ (∀ μ21 : xM, μ21 = wi μ14 205 w.toNat l3_11 → xRan μ21 → ((xIn l4_12) ∧ (tX1_leastWithout l4_12 μ21 (fun r27 μ25 => (xIn r27) → xRan μ25 → (∀ μ29 : xM, μ29 = wi μ25 206 w.toNat r27 → xRan μ29 → (K (w + 1) μ29))))))) ∧
  (¬ (μ14 178 w.toNat) ≤ l5_13 → (0 ≤ l5_13 ∧ l5_13 < 24) ∧ (tX1_chainOf (μ14 (127 + w.toNat) l5_13.toNat) μ14 (fun r36 μ34 => (xIn r36) → xRan μ34 → ((xIn l3_11) ∧ ((xIn (1 + r36)) ∧ (tX1_nimOf (μ34 (127 + w.toNat) l5_13.toNat) μ34 (fun r43 μ41 => (xIn r43) → xRan μ41 → (J31 (max l3_11 (1 + r36)) (xOr l4_12 (xShl 1 r43)) (l5_13 + 1) μ41)))))))))))) := by
      intro hw
      have ul : (upsF R w.toNat).length ≤ 24 := upsF_len
      have lw := hl.2.1 w.toNat (by omega)
      have u0 : upL R w.toNat (upTo 25 0 w.toNat) = upsF R w.toNat := by unfold upTo; rw [if_pos (by omega)]; rfl
      rw [u0] at lw
      have e178 : ν 178 w.toNat = (upsF R w.toNat).length := by rw [f 178 (by omega) (by omega)]; exact lw.1
      have up : ∀ v ∈ upsF R w.toNat, 0 ≤ ν 205 v ∧ ν 205 v + 1 ≤ 6 := by
        intro v hv
        have q := ups_ln hR hv
        by_cases d : domF R w.toNat
        · have := hw d
          have i := hI v (Or.inl q.1) (Or.inl (by omega))
          omega
        · rw [upsF_non d] at hv; exact absurd hv (by simp)
      refine rd3c (n := ((upsF R w.toNat).length : Int)) (fun i a b => a = mxL (fun v => ν 205 v + 1) ((upsF R w.toNat).take i.toNat) ∧ b = setL (ν 206) ((upsF R w.toNat).take i.toNat)) (by omega) ⟨rfl, rfl⟩ ?_
      rintro i a b K2 i0 i1 ⟨rfl, rfl⟩ hK2
      have am := mxL_le (f := fun v => ν 205 v + 1) (m := 6) (by omega) ((upsF R w.toNat).take i.toNat) (fun v hv => (up v (List.mem_of_mem_take hv)).2)
      rw [e178]
      refine ⟨⟨w0, by omega⟩, ⟨by omega, by omega⟩, fun c => ⟨⟨by omega, by omega⟩, wl fun _ => ⟨setL_in _, s_least (fun _ _ => wl fun _ => hK _ (by omega) ⟨fun k q q2 => ?_, ?_⟩)⟩⟩, fun c => ⟨⟨i0, by omega⟩, ?_⟩⟩
      · rw [← f k q q2]; funext j; rw [wi_cell q2, wi_cell q]
      · rw [List.take_of_length_le (by omega)]
        have pu := upI_put (a' := wi (wi ν 205 w.toNat (mxL (fun v => ν 205 v + 1) (upsF R w.toNat))) 206 w.toNat (mexF (setL (ν 206) (upsF R w.toNat))) 205) (b' := wi (wi ν 205 w.toNat (mxL (fun v => ν 205 v + 1) (upsF R w.toNat))) 206 w.toNat (mexF (setL (ν 206) (upsF R w.toNat))) 206) (n := n) (w := w.toNat) hR hI (fun u _ q => Or.inl q) (fun u _ q => by omega) hw (fun u q => by rw [wi_cell (by omega), wi_place q]) (fun u q => by rw [wi_place q, wi_cell (by omega)]) (by rw [wi_cell (by omega), wi_self]) (by rw [wi_self])
        refine fun u du hu => pu u du ?_
        by_cases e : u = w.toNat
        · exact Or.inr e
        · left; omega
      · have hi : i.toNat < (upsF R w.toNat).length := by omega
        have r := lw.2.1 i.toNat hi
        have e127 : ν (127 + w.toNat) i.toNat = ((upsF R w.toNat)[i.toNat] : Nat) := by rw [f (127 + w.toNat) (by omega) (by omega)]; exact r
        have m := List.getElem_mem hi
        have uv := up _ m
        have lv := (upsF_mem.1 m).1
        rw [e127]
        refine s_chainOf (by omega) (by omega) (fun _ _ => ⟨⟨by omega, by omega⟩, ⟨by rw [Int.toNat_natCast]; omega, by rw [Int.toNat_natCast]; omega⟩, ?_⟩)
        rw [e127]
        refine s_nimOf (by omega) (by omega) (fun _ _ => hK2 _ _ (by omega) ?_)
        rw [Int.toNat_natCast, show (i + 1).toNat = i.toNat + 1 by omega, ← List.take_append_getElem hi, mxL_snoc, setL_snoc]
        exact ⟨by rw [Int.add_comm 1], rfl⟩
    refine h_len hh (fun hw _ _ => ⟨fun d => go (fun _ => ?_), fun d => skip (fun z => d ?_)⟩) (fun hw _ _ => ⟨fun d => go (fun z => ?_), fun d => skip (fun z => d ?_)⟩)
    · have := hw.2
      unfold lnF; rw [if_neg (by omega)]; exact d
    · have := hw.2
      have z2 := z.2
      unfold lnF at z2; rw [if_neg (by omega)] at z2; exact z2
    · rcases z with z | z
      · exact absurd ⟨w0, by omega⟩ hw
      · unfold lnF; rw [if_pos z]; exact d
    · rcases z with ⟨z | z, z2⟩
      · exact absurd ⟨w0, by omega⟩ hw
      · unfold lnF at z2; rw [if_pos z] at z2; exact z2
