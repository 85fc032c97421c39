/-! loops that count up: what holds at each step -/
theorem up1 {a n : Int} {μ : xM} {body : (Int → xM → Prop) → Int → xM → Prop} (P : Int → xM → Prop) (ha : a ≤ n) (h0 : P a μ)
    (hs : ∀ (i : Int) (ν : xM) (K : Int → xM → Prop), a ≤ i → i ≤ n → P i ν → xRan ν → (∀ ν', i < n → P (i + 1) ν' → K (i + 1) ν') → body K i ν) : xLoop1 a μ body := by
  refine ⟨fun m i ν => a ≤ i ∧ i ≤ n ∧ m = (n - i).toNat ∧ P i ν, ⟨_, by omega, ha, rfl, h0⟩, ?_⟩
  rintro m i ν ⟨h1, h2, h3, h4⟩ hr
  exact hs i ν _ h1 h2 h4 hr (fun ν' h5 h6 => ⟨_, by omega, by omega, by omega, rfl, h6⟩)
theorem up2a {a b n : Int} {μ : xM} {body : (Int → Int → xM → Prop) → Int → Int → xM → Prop} (P : Int → Int → xM → Prop) (ha : a ≤ n) (h0 : P a b μ)
    (hs : ∀ (i b : Int) (ν : xM) (K : Int → Int → xM → Prop), a ≤ i → i ≤ n → P i b ν → xRan ν → (∀ b' ν', i < n → P (i + 1) b' ν' → K (i + 1) b' ν') → body K i b ν) : xLoop2 a b μ body := by
  refine ⟨fun m i b ν => a ≤ i ∧ i ≤ n ∧ m = (n - i).toNat ∧ P i b ν, ⟨_, by omega, ha, rfl, h0⟩, ?_⟩
  rintro m i b ν ⟨h1, h2, h3, h4⟩ hr
  exact hs i b ν _ h1 h2 h4 hr (fun b' ν' h5 h6 => ⟨_, by omega, by omega, by omega, rfl, h6⟩)
theorem up2b {a b n : Int} {μ : xM} {body : (Int → Int → xM → Prop) → Int → Int → xM → Prop} (P : Int → Int → xM → Prop) (ha : a ≤ n) (h0 : P a b μ)
    (hs : ∀ (i b : Int) (ν : xM) (K : Int → Int → xM → Prop), a ≤ i → i ≤ n → P i b ν → xRan ν → (∀ b' ν', i < n → P (i + 1) b' ν' → K b' (i + 1) ν') → body K b i ν) : xLoop2 b a μ body := by
  refine ⟨fun m b i ν => a ≤ i ∧ i ≤ n ∧ m = (n - i).toNat ∧ P i b ν, ⟨_, by omega, ha, rfl, h0⟩, ?_⟩
  rintro m b i ν ⟨h1, h2, h3, h4⟩ hr
  exact hs i b ν _ h1 h2 h4 hr (fun b' ν' h5 h6 => ⟨_, by omega, by omega, by omega, rfl, h6⟩)
theorem up3c {a b c n : Int} {μ : xM} {body : (Int → Int → Int → xM → Prop) → Int → Int → Int → xM → Prop} (P : Int → Int → Int → xM → Prop) (ha : a ≤ n) (h0 : P a b c μ)
    (hs : ∀ (i b c : Int) (ν : xM) (K : Int → Int → Int → xM → Prop), a ≤ i → i ≤ n → P i b c ν → xRan ν → (∀ b' c' ν', i < n → P (i + 1) b' c' ν' → K b' c' (i + 1) ν') → body K b c i ν) : xLoop3 b c a μ body := by
  refine ⟨fun m b c i ν => a ≤ i ∧ i ≤ n ∧ m = (n - i).toNat ∧ P i b c ν, ⟨_, by omega, ha, rfl, h0⟩, ?_⟩
  rintro m b c i ν ⟨h1, h2, h3, h4⟩ hr
  exact hs i b c ν _ h1 h2 h4 hr (fun b' c' ν' h5 h6 => ⟨_, by omega, by omega, by omega, rfl, h6⟩)
theorem dn1 {a n : Int} {μ : xM} {body : (Int → xM → Prop) → Int → xM → Prop} (P : Int → xM → Prop) (ha : n ≤ a) (h0 : P a μ)
    (hs : ∀ (i : Int) (ν : xM) (K : Int → xM → Prop), n ≤ i → i ≤ a → P i ν → xRan ν → (∀ ν', n < i → P (i + (-1)) ν' → K (i + (-1)) ν') → body K i ν) : xLoop1 a μ body := by
  refine ⟨fun m i ν => n ≤ i ∧ i ≤ a ∧ m = (i - n).toNat ∧ P i ν, ⟨_, ha, by omega, rfl, h0⟩, ?_⟩
  rintro m i ν ⟨h1, h2, h3, h4⟩ hr
  exact hs i ν _ h1 h2 h4 hr (fun ν' h5 h6 => ⟨_, by omega, by omega, by omega, rfl, h6⟩)
/-! the same, where the memory stays -/
theorem rd1 {a n : Int} {μ : xM} {body : (Int → xM → Prop) → Int → xM → Prop} (P : Int → Prop) (ha : a ≤ n) (h0 : P a)
    (hs : ∀ (i : Int) (K : Int → xM → Prop), a ≤ i → i ≤ n → P i → (i < n → P (i + 1) → K (i + 1) μ) → body K i μ) : xLoop1 a μ body :=
  up1 (fun i ν => ν = μ ∧ P i) ha ⟨rfl, h0⟩ (by rintro i ν K h1 h2 ⟨rfl, h3⟩ _ hK; exact hs i K h1 h2 h3 (fun h h' => hK _ h ⟨rfl, h'⟩))
theorem rd2a {a b n : Int} {μ : xM} {body : (Int → Int → xM → Prop) → Int → Int → xM → Prop} (P : Int → Int → Prop) (ha : a ≤ n) (h0 : P a b)
    (hs : ∀ (i b : Int) (K : Int → Int → xM → Prop), a ≤ i → i ≤ n → P i b → (∀ b', i < n → P (i + 1) b' → K (i + 1) b' μ) → body K i b μ) : xLoop2 a b μ body :=
  up2a (fun i b ν => ν = μ ∧ P i b) ha ⟨rfl, h0⟩ (by rintro i b ν K h1 h2 ⟨rfl, h3⟩ _ hK; exact hs i b K h1 h2 h3 (fun b' h h' => hK b' _ h ⟨rfl, h'⟩))
theorem rd2b {a b n : Int} {μ : xM} {body : (Int → Int → xM → Prop) → Int → Int → xM → Prop} (P : Int → Int → Prop) (ha : a ≤ n) (h0 : P a b)
    (hs : ∀ (i b : Int) (K : Int → Int → xM → Prop), a ≤ i → i ≤ n → P i b → (∀ b', i < n → P (i + 1) b' → K b' (i + 1) μ) → body K b i μ) : xLoop2 b a μ body :=
  up2b (fun i b ν => ν = μ ∧ P i b) ha ⟨rfl, h0⟩ (by rintro i b ν K h1 h2 ⟨rfl, h3⟩ _ hK; exact hs i b K h1 h2 h3 (fun b' h h' => hK b' _ h ⟨rfl, h'⟩))
theorem rd3c {a b c n : Int} {μ : xM} {body : (Int → Int → Int → xM → Prop) → Int → Int → Int → xM → Prop} (P : Int → Int → Int → Prop) (ha : a ≤ n) (h0 : P a b c)
    (hs : ∀ (i b c : Int) (K : Int → Int → Int → xM → Prop), a ≤ i → i ≤ n → P i b c → (∀ b' c', i < n → P (i + 1) b' c' → K b' c' (i + 1) μ) → body K b c i μ) : xLoop3 b c a μ body :=
  up3c (fun i b c ν => ν = μ ∧ P i b c) ha ⟨rfl, h0⟩ (by rintro i b c ν K h1 h2 ⟨rfl, h3⟩ _ hK; exact hs i b c K h1 h2 h3 (fun b' c' h h' => hK b' c' _ h ⟨rfl, h'⟩))
