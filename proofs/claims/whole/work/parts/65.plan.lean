/-! plans: letters summed -/
def sumN (f : Nat → Int) : Nat → Int
  | 0 => 0
  | n + 1 => sumN f n + f n
theorem sumN_c {f g : Nat → Int} : ∀ n : Nat, (∀ c, c < n → f c = g c) → sumN f n = sumN g n := by
  intro n
  induction n with
  | zero => intro _; rfl
  | succ n ih => intro h; simp only [sumN]; rw [ih (fun c hc => h c (by omega)), h n (by omega)]
theorem sumN_add {f g : Nat → Int} : ∀ n : Nat, sumN (fun c => f c + g c) n = sumN f n + sumN g n := by
  intro n
  induction n with
  | zero => rfl
  | succ n ih => simp only [sumN]; rw [ih]; omega
theorem sumN_upd {f g : Nat → Int} {x : Nat} {d : Int} (hx : g x = f x + d) (h : ∀ c, c ≠ x → g c = f c) : ∀ n : Nat, sumN g n = sumN f n + if x < n then d else 0 := by
  intro n
  induction n with
  | zero => simp [sumN]
  | succ n ih =>
    simp only [sumN]
    rw [ih]
    by_cases e : n = x
    · subst e
      rw [hx, if_neg (by omega), if_pos (by omega)]; omega
    · rw [h n e]
      by_cases l : x < n
      · rw [if_pos l, if_pos (by omega)]; omega
      · rw [if_neg l, if_neg (by omega)]; omega
theorem sumN_le {f g : Nat → Int} : ∀ n : Nat, (∀ c, c < n → f c ≤ g c) → sumN f n ≤ sumN g n := by
  intro n
  induction n with
  | zero => intro _; exact Int.le_refl _
  | succ n ih => intro h; simp only [sumN]; have := ih (fun c hc => h c (by omega)); have := h n (by omega); omega
theorem sumN_eq {f g : Nat → Int} : ∀ n : Nat, (∀ c, c < n → f c ≤ g c) → sumN f n = sumN g n → ∀ c, c < n → f c = g c := by
  intro n
  induction n with
  | zero => intro _ _ c hc; omega
  | succ n ih =>
    intro h e c hc
    simp only [sumN] at e
    have a := sumN_le n (fun c hc => h c (by omega))
    have b := h n (by omega)
    by_cases q : c = n
    · subst q; omega
    · exact ih (fun c hc => h c (by omega)) (by omega) c (by omega)
theorem sumN_k (d : Int) : ∀ n : Nat, sumN (fun _ => d) n = n * d := by
  intro n
  induction n with
  | zero => simp [sumN]
  | succ n ih => simp only [sumN]; rw [ih, show ((n + 1 : Nat) : Int) = (n : Int) + 1 by omega, Int.add_mul]; omega
def ovS (H nd : Int → Int) : Int := sumN (fun c => max 0 (nd c - H c)) 26
theorem ovS_c {H nd nd' : Int → Int} (h : ∀ c : Nat, c < 26 → nd' c = nd c) : ovS H nd' = ovS H nd := sumN_c _ (fun c hc => by rw [h c hc])
theorem ovS_up {H nd nd' : Int → Int} {x : Nat} (hx : x < 26) (h1 : nd' x = nd x + 1) (h2 : ∀ c : Nat, c ≠ x → nd' c = nd c) : ovS H nd' = ovS H nd + (if H x - nd x ≤ 0 then 1 else 0) := by
  unfold ovS
  have := sumN_upd (f := fun c => max 0 (nd c - H c)) (g := fun c => max 0 (nd' c - H c)) (x := x) (d := if H x - nd x ≤ 0 then 1 else 0) (by rw [h1]; split <;> omega) (fun c hc => by rw [h2 c hc]) 26
  rw [this, if_pos hx]
theorem ovS_nn {H nd : Int → Int} : 0 ≤ ovS H nd := by
  have := sumN_le (f := fun _ => 0) (g := fun c => max 0 (nd c - H c)) 26 (fun c _ => by omega)
  rw [sumN_k] at this
  unfold ovS; omega
theorem ovS_bd {H nd : Int → Int} {d : Int} (h : ∀ c : Nat, c < 26 → nd c - H c ≤ d) (hd : 0 ≤ d) : ovS H nd ≤ 26 * d := by
  have := sumN_le (f := fun c => max 0 (nd c - H c)) (g := fun _ => d) 26 (fun c hc => by have := h c hc; omega)
  rw [sumN_k] at this
  unfold ovS; omega
theorem ovS_mono {H nd nd' : Int → Int} (h : ∀ c : Nat, c < 26 → nd c ≤ nd' c) : ovS H nd ≤ ovS H nd' := sumN_le _ (fun c hc => by have := h c hc; omega)
theorem ovS_zero {H nd : Int → Int} : ovS H nd ≤ 0 ↔ ∀ c : Nat, c < 26 → nd c ≤ H c := by
  constructor
  · intro h c hc
    have e : sumN (fun _ => 0) 26 = sumN (fun c => max 0 (nd c - H c)) 26 := by
      have := ovS_nn (H := H) (nd := nd)
      rw [sumN_k]; unfold ovS at h this; omega
    have := sumN_eq 26 (fun c _ => by omega) e c hc
    omega
  · intro h
    have := ovS_bd (H := H) (nd := nd) (d := 0) (fun c hc => by have := h c hc; omega) (by omega)
    omega
theorem ovS_split {H nd : Int → Int} : sumN (fun c => nd c) 26 - ovS H nd = sumN (fun c => min (nd c) (H c)) 26 := by
  have : sumN (fun c => nd c) 26 = sumN (fun c => min (nd c) (H c)) 26 + ovS H nd := by
    unfold ovS
    rw [← sumN_add]
    exact sumN_c _ (fun c _ => by omega)
  omega
theorem ovS_fill {H nd : Int → Int} : sumN (fun c => nd c) 26 - ovS H nd = sumN (fun c => H c) 26 ↔ ∀ c : Nat, c < 26 → H c ≤ nd c := by
  rw [ovS_split]
  constructor
  · intro e c hc
    have := sumN_eq 26 (fun c _ => by omega) e c hc
    omega
  · intro h
    exact sumN_c _ (fun c hc => by have := h c hc; omega)
/-! letters of words, of rows, of guests -/
theorem cntL_rng (R : Nat → Int) (w : Nat) (c : Int) : ∀ n : Nat, 0 ≤ cntL R w n c ∧ cntL R w n c ≤ n := by
  intro n
  induction n with
  | zero => simp [cntL]
  | succ n ih => simp only [cntL]; split <;> omega
theorem cntW_rng {R : Nat → Int} (hR : okR R) {w : Nat} (hw : (w : Int) < R 3 ∨ w = 24) (c : Int) : 0 ≤ cntW R w c ∧ cntW R w c ≤ 6 := by
  unfold cntW
  split
  · omega
  · have := hR.len (w := w) (by omega)
    have := cntL_rng R w c (R (7 + w)).toNat
    omega
theorem cntG_rng (R : Nat → Int) (c : Int) : ∀ n : Nat, 0 ≤ cntG R n c ∧ cntG R n c ≤ n := by
  intro n
  induction n with
  | zero => simp [cntG]
  | succ n ih => simp only [cntG]; split <;> omega
theorem sum_cntL {R : Nat → Int} {w : Nat} : ∀ n : Nat, (∀ i, i < n → 97 ≤ R (31 + 6 * w + i) ∧ R (31 + 6 * w + i) ≤ 122) → sumN (fun c => cntL R w n c) 26 = n := by
  intro n
  induction n with
  | zero => intro _; simp only [cntL]; rw [sumN_k]; omega
  | succ n ih =>
    intro h
    have b := h n (by omega)
    have := sumN_upd (f := fun c => cntL R w n c) (g := fun c => cntL R w (n + 1) c) (x := (R (31 + 6 * w + n) - 97).toNat) (d := 1) (by simp only [cntL]; rw [if_pos (by omega)]) (fun c hc => by simp only [cntL]; rw [if_neg (by omega)]; omega) 26
    rw [this, ih (fun i hi => h i (by omega)), if_pos (by omega)]; omega
theorem sum_cntW {R : Nat → Int} (hR : okR R) {w : Nat} (hw : (w : Int) < R 3) : sumN (fun c => cntW R w c) 26 = R (7 + w) := by
  have bW := hR.W
  have bl := hR.len hw
  have e : sumN (fun c => cntW R w c) 26 = sumN (fun c => cntL R w (R (7 + w)).toNat c) 26 := sumN_c _ (fun c _ => by simp only [cntW]; rw [if_neg (by omega)])
  rw [e, sum_cntL _ (fun i hi => hR.let hw (by omega))]; omega
theorem sum_cntG {R : Nat → Int} (hR : okR R) : ∀ n : Nat, (n : Int) ≤ R 4 → sumN (fun c => cntG R n c) 26 = n := by
  intro n
  induction n with
  | zero => intro _; simp only [cntG]; rw [sumN_k]; omega
  | succ n ih =>
    intro h
    have b := hR.fst (g := n) (by omega)
    have := sumN_upd (f := fun c => cntG R n c) (g := fun c => cntG R (n + 1) c) (x := (R (295 + n)).toNat) (d := 1) (by simp only [cntG]; rw [if_pos (by omega)]) (fun c hc => by simp only [cntG]; rw [if_neg (by omega)]; omega) 26
    rw [this, ih (by omega), if_pos (by omega)]; omega
theorem needL_snoc {R : Nat → Int} {row : List Nat} {w : Nat} {c : Int} : needL R (row ++ [w]) c = needL R row c + cntW R w c := by simp [needL]
theorem needL_app {R : Nat → Int} {row ext : List Nat} {c : Int} : needL R (row ++ ext) c = needL R row c + needL R ext c := by simp [needL]
theorem lenL_snoc {R : Nat → Int} {row : List Nat} {w : Nat} : lenL R (row ++ [w]) = lenL R row + R (7 + w) := by simp [lenL]
theorem valL_snoc {R : Nat → Int} {row : List Nat} {w : Nat} : valL R (row ++ [w]) = valL R row + R (175 + w) := by simp [valL]
def rowW (R : Nat → Int) (row : List Nat) : Prop := ∀ w ∈ row, (w : Int) < R 3
theorem needL_rng {R : Nat → Int} (hR : okR R) (c : Int) : ∀ row : List Nat, rowW R row → 0 ≤ needL R row c ∧ needL R row c ≤ 6 * row.length := by
  intro row
  induction row with
  | nil => intro _; simp [needL]
  | cons w row ih =>
    intro h
    have a := ih (fun v hv => h v (by simp [hv]))
    have b := cntW_rng hR (Or.inl (h w (by simp))) c
    have e : needL R (w :: row) c = cntW R w c + needL R row c := by simp [needL]
    rw [e, List.length_cons]; omega
theorem lenL_rng {R : Nat → Int} (hR : okR R) : ∀ row : List Nat, rowW R row → 0 ≤ lenL R row ∧ lenL R row ≤ 6 * row.length := by
  intro row
  induction row with
  | nil => intro _; simp [lenL]
  | cons w row ih =>
    intro h
    have a := ih (fun v hv => h v (by simp [hv]))
    have b := hR.len (h w (by simp))
    have e : lenL R (w :: row) = R (7 + w) + lenL R row := by simp [lenL]
    rw [e, List.length_cons]; omega
theorem valL_rng {R : Nat → Int} (hR : okR R) : ∀ row : List Nat, rowW R row → 0 ≤ valL R row ∧ valL R row ≤ 99 * row.length := by
  intro row
  induction row with
  | nil => intro _; simp [valL]
  | cons w row ih =>
    intro h
    have a := ih (fun v hv => h v (by simp [hv]))
    have b := hR.val (h w (by simp))
    have e : valL R (w :: row) = R (175 + w) + valL R row := by simp [valL]
    rw [e, List.length_cons]; omega
theorem sum_need {R : Nat → Int} (hR : okR R) : ∀ row : List Nat, rowW R row → sumN (fun c => needL R row c) 26 = lenL R row := by
  intro row
  induction row with
  | nil => intro _; simp only [needL, lenL, List.map_nil, List.sum_nil]; rw [sumN_k]; omega
  | cons w row ih =>
    intro h
    have e : sumN (fun c => needL R (w :: row) c) 26 = sumN (fun c => cntW R w c) 26 + sumN (fun c => needL R row c) 26 := by
      rw [← sumN_add]
      exact sumN_c _ (fun c _ => by simp [needL])
    rw [e, ih (fun v hv => h v (by simp [hv])), sum_cntW hR (h w (by simp))]
    simp [lenL]
theorem fitF_ov {R : Nat → Int} {H : Int → Int} {row : List Nat} : fitF R H row ↔ ovS H (needL R row) ≤ 0 := by
  rw [ovS_zero]
  constructor
  · intro h c hc; exact h c (by omega) (by omega)
  · intro h c h0 h1
    have := h c.toNat (by omega)
    rw [show ((c.toNat : Nat) : Int) = c by omega] at this
    exact this
theorem fillF_ov {R : Nat → Int} (hR : okR R) {H : Int → Int} {N : Int} {row : List Nat} (hw : rowW R row) (hN : sumN (fun c => H c) 26 = N) : (fillF R H row ↔ lenL R row - ovS H (needL R row) = N) := by
  rw [← hN, ← sum_need hR row hw, ovS_fill]
  constructor
  · intro h c hc; exact h c (by omega) (by omega)
  · intro h c h0 h1
    have := h c.toNat (by omega)
    rw [show ((c.toNat : Nat) : Int) = c by omega] at this
    exact this
/-! rows in their order -/
theorem spreadT_mem {f : List Nat → Nat → List (List Nat)} {row : List Nat} : ∀ l : List Nat, row ∈ spreadT f l → ∃ t p, row ∈ f t p ∧ p ∈ l ∧ ∀ w ∈ t, w ∈ l := by
  intro l
  induction l with
  | nil => intro h; simp [spreadT] at h
  | cons p l ih =>
    intro h
    simp only [spreadT, List.mem_append] at h
    rcases h with h | h
    · exact ⟨p :: l, p, h, by simp, fun w hw => hw⟩
    · obtain ⟨t, q, h1, h2, h3⟩ := ih h
      exact ⟨t, q, h1, by simp [h2], fun w hw => by simp [h3 w hw]⟩
theorem spreadF_mem : ∀ (n : Nat) (l pre row : List Nat), row ∈ spreadF n l pre → ∃ ext, row = pre ++ ext ∧ (∀ w ∈ ext, w ∈ l) ∧ ext.length ≤ n := by
  intro n
  induction n with
  | zero => intro l pre row h; simp [spreadF] at h; exact ⟨[], by simp [h], by simp, by simp⟩
  | succ n ih =>
    intro l pre row h
    simp only [spreadF, List.mem_append, List.mem_singleton] at h
    rcases h with h | h
    · obtain ⟨t, p, h1, h2, h3⟩ := spreadT_mem l h
      obtain ⟨ext, e1, e2, e3⟩ := ih t (pre ++ [p]) row h1
      refine ⟨p :: ext, by rw [e1]; simp, fun w hw => ?_, by simp; omega⟩
      rcases List.mem_cons.1 hw with q | q
      · rw [q]; exact h2
      · exact h3 w (e2 w q)
    · exact ⟨[], by simp [h], by simp, by simp⟩
theorem foldl_id {σ : Type} {J : σ → List Nat → σ} {s : σ} : ∀ L : List (List Nat), (∀ row ∈ L, J s row = s) → L.foldl J s = s := by
  intro L
  induction L with
  | nil => intro _; rfl
  | cons r L ih => intro h; rw [List.foldl_cons, h r (by simp)]; exact ih (fun x hx => h x (by simp [hx]))
theorem offL_cons {P : Nat → Bool} {a : Nat} (ha : a < 24) : offL P a = if P a then a :: offL P (a + 1) else offL P (a + 1) := by
  unfold offL
  rw [show 24 - a = (24 - (a + 1)) + 1 by omega, List.range'_succ, List.filter_cons]
theorem offL_24 {P : Nat → Bool} : offL P 24 = [] := by simp [offL]
theorem offL_mem {P : Nat → Bool} {a w : Nat} (h : w ∈ offL P a) : w < 24 ∧ P w = true := by
  unfold offL at h
  have := List.mem_filter.1 h
  have q := List.mem_range'_1.1 this.1
  exact ⟨by omega, this.2⟩
/-- the reference's rows from b on -/
def tailF (m : Nat) (P : Nat → Bool) (b : Nat) (pre : List Nat) : List (List Nat) := if b ≤ 24 then spreadF m (offL P b) pre else []
theorem tailF_25 {m : Nat} {P : Nat → Bool} {b : Nat} {pre : List Nat} (h : 24 < b) : tailF m P b pre = [] := by unfold tailF; rw [if_neg (by omega)]
theorem tailF_24 {m : Nat} {P : Nat → Bool} {pre : List Nat} : tailF m P 24 pre = [pre] := by
  unfold tailF
  rw [if_pos (by omega), offL_24]
  cases m <;> simp [spreadF, spreadT]
theorem tailF_y {m : Nat} {P : Nat → Bool} {b : Nat} {pre : List Nat} (hb : b < 24) (h : P b = true) : tailF (m + 1) P b pre = tailF m P b (pre ++ [b]) ++ tailF (m + 1) P (b + 1) pre := by
  unfold tailF
  rw [if_pos (by omega), if_pos (by omega), if_pos (by omega)]
  have e : offL P b = b :: offL P (b + 1) := by rw [offL_cons hb, if_pos h]
  simp only [spreadF]
  rw [e]
  simp only [spreadT, List.append_assoc]
theorem tailF_n {m : Nat} {P : Nat → Bool} {b : Nat} {pre : List Nat} (hb : b < 24) (h : P b = false ∨ m = 0) : tailF m P b pre = tailF m P (b + 1) pre := by
  unfold tailF
  rw [if_pos (by omega), if_pos (by omega)]
  by_cases e : m = 0
  · subst e; simp [spreadF]
  · rcases h with h | h
    · rw [offL_cons hb, h]; simp
    · exact absurd h e
