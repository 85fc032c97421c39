/-! the class reads an inn -/
def geP (n a : Nat) : pO → Prop
  | .inl _ => True
  | .inr q => a ≤ q.2 ∧ q.2 ≤ n
theorem geP_I {n a : Nat} {p : Prop} {x y : pO} (h : geP n a x) (h2 : geP n a y) : geP n a (cI p x y) := by
  by_cases q : p
  · rw [cI_y q]; exact h
  · rw [cI_n q]; exact h2
theorem geP_b {n a p : Nat} {f : Int} : geP n a (bd f p) := trivial
theorem geP_o {n a b : Nat} {X : Nat → Int} (h : a ≤ b ∧ b ≤ n) : geP n a (okk X b) := h
theorem nx_in {T : Nat → Int} {n a b : Nat} (h : a ≤ b ∧ b ≤ n) : a ≤ nxF T n b ∧ nxF T n b ≤ n := by
  have := nxF_le (T := T) h.2
  omega
theorem geP_k {T : Nat → Int} {n a b i : Nat} {o : Nat → pO} (h : a ≤ b ∧ b ≤ n) (ho : ∀ c, a ≤ c ∧ c ≤ n → geP n a (o c)) : geP n a (keyF T n i b o) := geP_I (ho _ (nx_in h)) geP_b
theorem geP_n {T : Nat → Int} {n a b : Nat} {lo hi : Int} {o : Int → Nat → pO} (h : a ≤ b ∧ b ≤ n) (ho : ∀ v c, a ≤ c ∧ c ≤ n → geP n a (o v c)) : geP n a (numF T n lo hi b o) := geP_I (geP_I (ho _ _ (nx_in h)) geP_b) geP_b
theorem geP_g {T : Nat → Int} {n a : Nat} : ∀ (m : Nat) (X : Nat → Int) (b : Nat), a ≤ b ∧ b ≤ n → geP n a (guestP T n m X b) := by
  intro m
  induction m with
  | zero => intros; exact geP_b
  | succ m ih =>
    intro X b h
    rw [guestP_s]
    exact geP_I (geP_I geP_b (geP_I geP_b (geP_I (ih _ _ (nx_in (nx_in h))) (geP_o (nx_in (nx_in h)))))) geP_b
theorem geP_s {T : Nat → Int} {n a : Nat} : ∀ (m : Nat) (X : Nat → Int) (b : Nat), a ≤ b ∧ b ≤ n → geP n a (seenL T n m X b) := by
  intro m
  induction m with
  | zero => intros; exact geP_b
  | succ m ih =>
    intro X b h
    rw [seenL_s]
    exact geP_I (geP_I (geP_I geP_b (geP_I (ih _ _ (nx_in (nx_in h))) (geP_o (nx_in (nx_in h))))) geP_b) geP_b
theorem lineP_ge {T : Nat → Int} {n a : Nat} {X : Nat → Int} (h : a ≤ n) : geP n a (lineP T n X a) := by
  have h0 : a ≤ a ∧ a ≤ n := ⟨Nat.le_refl _, h⟩
  refine geP_I ?_ (geP_I ?_ (geP_I (geP_g _ _ _ h0) (geP_I ?_ (geP_I (geP_I geP_b (geP_s _ _ _ h0)) geP_b))))
  · exact geP_I geP_b (geP_k (nx_in h0) fun _ h1 => geP_n h1 fun _ _ h2 => geP_k h2 fun _ h3 => geP_n h3 fun _ _ h4 => geP_k h4 fun _ h5 => geP_I (geP_o (nx_in h5)) (geP_I (geP_o (nx_in h5)) (geP_I (geP_o (nx_in h5)) geP_b)))
  · exact geP_I geP_b (geP_I (geP_I geP_b (geP_I (geP_k (nx_in (nx_in h0)) fun _ h1 => geP_n h1 fun _ _ h2 => geP_I (geP_o (nx_in h2)) (geP_o h2)) geP_b)) geP_b)
  · exact geP_I geP_b (geP_I (geP_I (geP_I geP_b (geP_n (nx_in (nx_in h0)) fun _ _ h1 => geP_o h1)) geP_b) geP_b)
theorem oC.p {T : Nat → Int} {n : Nat} {o : pO} {r : Int} {μ ν ω : xM} (h : oC T n ν o r ω) (g : gD μ ν) : oC T n μ o r ω := by
  cases o with
  | inl q => exact ⟨h.1, h.2.p g.1⟩
  | inr q => exact ⟨h.1, g.tt h.2.1, h.2.2⟩
theorem semi_lt {T : Nat → Int} {n a : Nat} {K : Int} (h : tkK T n a = K) (hK : K ≠ 0) : a < n := by
  unfold tkK at h
  by_cases c : a < n
  · exact c
  · rw [if_neg c] at h; exact absurd h.symm hK
/-- between two lines -/
def iLn (T : Nat → Int) (n : Nat) (μ : xM) (o : pO) (m : Nat) (l2 l3 : Int) (ω : xM) : Prop := (l2 = 0 ∧ ∃ f p, o = bd f p ∧ flC f p μ ω)
  ∨ (l2 = 1 ∧ ∃ (Y : Nat → Int) (b : Nat), cD T n Y ω ∧ tC T n b ω ∧ gD μ ω ∧ o = cI (tkK T n b = 3) (linesP T n m Y (nxF T n b)) (endP T n Y b) ∧ n ≤ b + m ∧ 0 ≤ l3 ∧ l3 ≤ b)
theorem iLn_of {T : Nat → Int} {n m a : Nat} {X : Nat → Int} {μ ω : xM} {o : pO} {r l : Int} (e : linesP T n (m + 1) X a = o) (h : oC T n μ (lineP T n X a) r ω) (an : a ≤ n) (nm : n ≤ a + m) (l0 : 0 ≤ l) (l1 : l ≤ a) : iLn T n μ o m r l ω := by
  have ge := lineP_ge (T := T) (X := X) an
  cases hL : lineP T n X a with
  | inl q =>
    rw [hL] at h
    simp only [linesP, hL] at e
    exact Or.inl ⟨h.1, q.1, q.2, e.symm, h.2⟩
  | inr q =>
    rw [hL] at h ge
    simp only [linesP, hL] at e
    have ge2 : a ≤ q.2 ∧ q.2 ≤ n := ge
    exact Or.inr ⟨h.1, q.1, q.2, h.2.2.1, h.2.2.2, h.2.1, e.symm, by omega, l0, by omega⟩
theorem cD_zero {T : Nat → Int} {n : Nat} {ν : xM} (h : ∀ j : Nat, j < 7 → ν 1 j = 0) (h7 : ν 35 7 = 0) (h8 : ν 35 8 = 0) : cD T n (fun _ => 0) ν := by
  have no : ∀ w : Nat, ¬ (w : Int) < 0 := fun w => by omega
  refine ⟨⟨fun z => absurd rfl z, by decide, by decide, by decide, by decide, fun w hw => absurd hw (no w), fun w hw => absurd hw (no w), fun w hw => absurd hw (no w), fun w hw => absurd hw (no w), fun _ _ _ => rfl, fun w hw => absurd hw (no w)⟩, fun j _ hj => h j hj, fun z => absurd rfl z, ⟨fun _ => h7, fun z => absurd rfl z⟩, ⟨fun _ => h8, fun z => absurd rfl z⟩, fun w hw => absurd hw (no w), fun w hw => absurd hw (no w), fun w hw => absurd hw (no w), fun w hw => absurd hw (no w)⟩
theorem s_inn7 {T : Nat → Int} {n : Nat} {ν : xM} {Q : Int → xM → Prop} (hn : (n : Int) ≤ ν 35 0) (h9 : ν 35 0 ≤ 900) (hT : ∀ i, i < n → ν 36 i = T i ∧ 0 ≤ T i ∧ T i ≤ 255)
    (hq : ∀ r ω ν0, (∀ k, (k = 0 ∨ k = 36 ∨ 38 < k) → ν0 k = ν k) → ν0 35 0 = 0 → ν0 35 1 = 0 → (b30 ν → b30 ν0) → oC T n ν0 (linesP T n (n + 1) (fun _ => 0) (skF T n 0)) r ω → Q r ω) : tX5_readInn n ν Q := by
  intro _ _ _
  refine wl fun _ => wl fun _ => wl fun _ => wl fun _ => wl fun _ => wl fun _ => wl fun _ _ => wl fun _ => wl fun _ => wl fun _ => wl fun _ => ?_
  obtain ⟨A, eA⟩ : ∃ A, A = wi (wi (wi (wi (wi (wi (wi (wi (wi (wi (wi ν 1 0 0) 1 1 0) 1 2 0) 1 3 0) 1 4 0) 1 5 0) 1 6 0) 35 7 0) 35 8 0) 35 1 0) 35 2 (-1) := ⟨_, rfl⟩
  rw [← eA]
  have A35 : A 35 0 = ν 35 0 := by rw [eA]; rfl
  rw [A35, Int.min_eq_left hn]
  refine wl fun _ => wl fun _ => wl fun _ => ?_
  obtain ⟨B, eB⟩ : ∃ B, B = wi (wi (wi A 35 9 n) 35 12 0) 35 0 0 := ⟨_, rfl⟩
  rw [← eB]
  have Bk : ∀ k, k ≠ 1 → k ≠ 35 → B k = ν k := fun k h1 h2 => by
    rw [eB, eA]; funext j
    simp [wi, h1, h2]
  have B1 : ∀ j : Nat, j < 7 → B 1 j = 0 := fun j hj => by
    rw [eB, eA]
    rcases (show j = 0 ∨ j = 1 ∨ j = 2 ∨ j = 3 ∨ j = 4 ∨ j = 5 ∨ j = 6 by omega) with rfl | rfl | rfl | rfl | rfl | rfl | rfl <;> rfl
  have B0 : B 35 0 = 0 ∧ B 35 1 = 0 ∧ B 35 7 = 0 ∧ B 35 8 = 0 ∧ B 35 12 = ((0 : Nat) : Int) ∧ B 35 9 = n := by
    rw [eB, eA]; exact ⟨rfl, rfl, rfl, rfl, rfl, rfl⟩
  have tp : tpe T n B := ⟨by omega, B0.2.2.2.2.2, fun i hi => by rw [Bk 36 (by omega) (by omega)]; exact (hT i hi).1, fun i hi => (hT i hi).2⟩
  have hq2 : ∀ r ω, oC T n B (linesP T n (n + 1) (fun _ => 0) (skF T n 0)) r ω → Q r ω := fun r ω h => hq r ω B (fun k hk => Bk k (by omega) (by omega)) B0.1 B0.2.1 (fun z w hw => by rw [Bk 30 (by omega) (by omega)]; exact z w hw) h
  refine s_next tp B0.2.2.2.2.1 (Nat.zero_le _) (fun ω1 s1 t1 _ => ?_)
  have c1 : cD T n (fun _ => 0) ω1 := (cD_zero B1 B0.2.2.1 B0.2.2.2.1).n s1.T
  have an := t1.2.1
  have n9 := t1.1.1
  refine s_line7 c1 t1 (fun r ω o1 _ _ => ?_)
  refine ⟨iLn T n B (linesP T n (n + 1) (fun _ => 0) (skF T n 0)), ⟨n, iLn_of rfl (o1.p s1.T.g) an (by omega) (by omega) (by omega)⟩, ?_⟩
  intro m l2 l3 χ h _
  rcases h with ⟨rfl, f, p, e, hf⟩ | ⟨rfl, Y, b, cY, tY, gY, e, nm, l0, l1⟩
  · have q0 : Q 0 χ := hq2 0 χ (oC_bd e hf)
    exact ⟨⟨by omega, by omega⟩, fun _ => ⟨fun _ => q0, fun z => absurd rfl z⟩, fun z => absurd rfl z⟩
  · rw [tY.2.2.2.2]
    refine ⟨⟨by omega, by omega⟩, fun z => absurd z (by decide), fun _ => ⟨fun k3 => ⟨fun z => absurd z (by decide), fun _ => ?_⟩, fun k3 => ?_⟩⟩
    · have e2 := e.trans (cI_n k3)
      refine s_ends7 cY tY (fun r ω o2 hr _ => ?_)
      have qq : Q r ω := hq2 r ω (by rw [e2]; exact o2.p gY)
      exact ⟨fun z => by rw [z] at qq; exact qq, fun z => by rw [z] at qq; exact qq⟩
    · have e2 := e.trans (cI_y k3)
      have bn := semi_lt k3 (by decide)
      have nx := nxF_le (T := T) tY.2.1
      obtain ⟨m', rfl⟩ : ∃ m', m = m' + 1 := ⟨m - 1, by omega⟩
      refine ⟨⟨by omega, by omega⟩, fun z => by omega, fun _ => s_nx7 tY (fun ω2 s2 t2 _ => s_line7 (cY.n s2.T) t2 (fun r ω o2 _ _ => ⟨m', by omega, iLn_of e2.symm (o2.p (gY.tt s2.T.g)) t2.2.1 ?_ (by omega) ?_⟩))⟩
      · have := nx.2.2 bn; omega
      · have := nx.2.2 bn; omega
