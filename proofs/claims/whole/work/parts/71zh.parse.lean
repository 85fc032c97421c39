/-! the reference reads an inn -/
theorem d_b127 {p : Int} {ν : xM} {Q : Int → xM → Prop} (h : ν 260 13 ≠ 0) (hq : tX11_inn_b171 p ν Q) : tX11_inn_b127 p ν Q := fun _ => ⟨fun _ => hq, fun z => absurd z h⟩
theorem d_b104 {p : Int} {ν : xM} {Q : Int → xM → Prop} (h : ν 260 13 ≠ 0) (hq : tX11_inn_b171 p ν Q) : tX11_inn_b104 p ν Q := fun _ => ⟨fun _ => d_b127 h hq, fun z => absurd z h⟩
theorem r_end7 {T : Nat → Int} {n b : Nat} {p : Int} {X : Nat → Int} {ν : xM} {Q : Int → xM → Prop} (h : rD T n X b ν) (hq : ∀ ω, oR T n ν (endP T n X b) ω → tX11_inn_b171 p ω Q) : tX11_inn_b104 p ν Q := by
  obtain ⟨ok, h64, t, h13⟩ := h
  have rc := rc_i T n b
  intro _
  rw [t.2.2.2.2.1, t.2.2.1]
  refine ⟨fun z => absurd h13 z, fun _ => ⟨fun z => ?_, fun z => r_wrong h13 (fun ω fl _ => d_b127 fl.d (hq ω (oR_bd (cI_n (fun q => z (rc.2.2.2.2.2 q))) fl)))⟩⟩
  have e0 : endP T n X b = _ := cI_y (rc.2.2.2.2.1 z)
  have bad : X 0 = 0 ∨ X 3 = 0 ∨ X 4 = 0 → tX11_inn_b161 p ν Q := fun q _ => by
    rw [t.2.2.1]
    exact r_wrong h13 (fun ω fl _ => hq ω (oR_bd (e0.trans (cI_y q)) fl))
  intro _
  rw [h64 0 (by omega), h64 3 (by omega), h64 4 (by omega)]
  refine ⟨fun z => absurd h13 z, fun _ => ⟨fun x0 => bad (Or.inl x0), fun x0 => ⟨fun x3 => bad (Or.inr (Or.inl x3)), fun x3 => ⟨fun x4 => hq ν (oR_ok (e0.trans (cI_n ?_)) (gR.rf ν) ok h64 t h13), fun x4 => bad (Or.inr (Or.inr x4))⟩⟩⟩⟩
  rintro (q | q | q)
  · exact x0 q
  · exact x3 q
  · exact x4 q
def iLr (T : Nat → Int) (n : Nat) (μ : xM) (o : pO) (m : Nat) (ω : xM) : Prop := (∃ f p, o = bd f p ∧ flR f p μ ω)
  ∨ (∃ (Y : Nat → Int) (b : Nat), rD T n Y b ω ∧ gR μ ω ∧ o = cI (tkK T n b = 3) (linesP T n m Y (nxF T n b)) (endP T n Y b) ∧ n ≤ b + m)
theorem iLr_of {T : Nat → Int} {n m a : Nat} {X : Nat → Int} {μ ω : xM} {o : pO} (e : linesP T n (m + 1) X a = o) (h : oR T n μ (lineP T n X a) ω) (an : a ≤ n) (nm : n ≤ a + m) : iLr T n μ o m ω := by
  have ge := lineP_ge (T := T) (X := X) an
  cases hL : lineP T n X a with
  | inl q =>
    rw [hL] at h
    simp only [linesP, hL] at e
    exact Or.inl ⟨q.1, q.2, e.symm, h⟩
  | inr q =>
    rw [hL] at h ge
    simp only [linesP, hL] at e
    have ge2 : a ≤ q.2 ∧ q.2 ≤ n := ge
    exact Or.inr ⟨q.1, q.2, h.2, h.1, e.symm, by omega⟩
theorem okP_zero : okP (fun _ => 0) := by
  have no : ∀ w : Nat, ¬ (w : Int) < 0 := fun w => by omega
  exact ⟨fun z => absurd rfl z, by decide, by decide, by decide, by decide, fun w hw => absurd hw (no w), fun w hw => absurd hw (no w), fun w hw => absurd hw (no w), fun w hw => absurd hw (no w), fun _ _ _ => rfl, fun w hw => absurd hw (no w)⟩
theorem r_inn7 {T : Nat → Int} {n : Nat} {ν : xM} {Q : Int → xM → Prop} (hn : (n : Int) ≤ ν 260 2) (h9 : ν 260 2 ≤ 900) (hT : ∀ i, i < n → ν 261 i = T i ∧ 0 ≤ T i ∧ T i ≤ 255)
    (hq : ∀ ω ν0, (∀ k, k ≠ 260 → k ≠ 262 → k ≠ 264 → ν0 k = ν k) → (∀ j, j ≠ 0 → j ≠ 11 → ¬ (2 ≤ j ∧ j ≤ 9) → j ≠ 13 → ν0 260 j = ν 260 j) → ν0 260 2 = 0 → ν0 260 9 = 0 → ν0 260 11 = 0 → oR T n ν0 (linesP T n (n + 1) (fun _ => 0) (skF T n 0)) ω → tX11_inn_b171 n ω Q) : tX11_inn n ν Q := by
  intro _ _
  refine s_good (fun _ => s_within (fun _ _ _ _ => ⟨fun _ => wl fun _ => wl fun _ => wl fun _ => ?_, fun z => absurd z (by decide)⟩) (fun z => absurd ⟨by omega, hn⟩ z))
  obtain ⟨C, eC⟩ : ∃ C, C = wi (wi (wi (wi (wi ν 260 0 0) 260 11 0) 260 2 0) 260 9 0) 260 13 0 := ⟨_, rfl⟩
  rw [← eC]
  have Ck : ∀ k, k ≠ 260 → C k = ν k := fun k hk => by rw [eC]; funext j; simp [wi, hk]
  have Cj : ∀ j, j ≠ 0 → j ≠ 11 → j ≠ 2 → j ≠ 9 → j ≠ 13 → C 260 j = ν 260 j := fun j a b c d e => by rw [eC]; simp [wi, a, b, c, d, e]
  have C0 : C 260 2 = 0 ∧ C 260 9 = 0 ∧ C 260 11 = 0 ∧ C 260 13 = 0 := by rw [eC]; exact ⟨rfl, rfl, rfl, rfl⟩
  refine up1 (n := 322) (fun i ω => (∀ k, k ≠ 264 → ω k = C k) ∧ ∀ j : Nat, (j : Int) < i → ω 264 j = 0) (by omega) ⟨fun _ _ => rfl, fun j hj => by omega⟩ ?_
  rintro i D K i0 i1 ⟨Dk, D0⟩ _ hK
  obtain ⟨i, rfl⟩ : ∃ m : Nat, i = m := ⟨i.toNat, by omega⟩
  refine ⟨⟨by omega, by omega⟩, fun z => wl fun _ => wl fun _ => ?_, fun z => ⟨⟨by omega, by omega⟩, wl fun _ => hK _ (by omega) ⟨fun k hk => ?_, fun j hj => ?_⟩⟩⟩
  rotate_left
  · rw [← Dk k hk]; funext j; exact wi_cell hk
  · rw [Int.toNat_natCast]
    by_cases y : j = i
    · rw [y, wi_self]
    · rw [wi_place y]; exact D0 j (by omega)
  obtain ⟨B, eB⟩ : ∃ B, B = wi (wi D 260 3 n) 260 5 0 := ⟨_, rfl⟩
  rw [← eB]
  have Bk : ∀ k, k ≠ 260 → B k = D k := fun k hk => by rw [eB]; funext j; rw [wi_cell hk, wi_cell hk]
  have Bj : ∀ j, j ≠ 3 → j ≠ 5 → B 260 j = C 260 j := fun j a b => by rw [eB, wi_place b, wi_place a, Dk 260 (by omega)]
  have B3 : B 260 3 = n ∧ B 260 5 = ((0 : Nat) : Int) := by rw [eB]; exact ⟨rfl, rfl⟩
  have b13 : B 260 13 = 0 := by rw [Bj 13 (by omega) (by omega)]; exact C0.2.2.2
  have tp : tpR T n B := ⟨by omega, B3.1, fun i hi => by rw [Bk 261 (by omega), Dk 261 (by omega), Ck 261 (by omega)]; exact (hT i hi).1, fun i hi => (hT i hi).2⟩
  have h64 : r64 (fun _ => 0) B := fun k hk => by rw [Bk 264 (by omega)]; exact D0 k (by omega)
  have hq2 : ∀ ω, oR T n B (linesP T n (n + 1) (fun _ => 0) (skF T n 0)) ω → tX11_inn_b171 n ω Q := fun ω h => hq ω B (fun k a b c => by rw [Bk k a, Dk k c, Ck k a]) (fun j a b c d => by rw [Bj j (by omega) (by omega)]; exact Cj j a b (by omega) (by omega) d) (by rw [Bj 2 (by omega) (by omega)]; exact C0.1) (by rw [Bj 9 (by omega) (by omega)]; exact C0.2.1) (by rw [Bj 11 (by omega) (by omega)]; exact C0.2.2.1) h
  refine r_next tp B3.2 (Nat.zero_le _) (fun ω1 s1 t1 _ => r_line7 ⟨okP_zero, h64.s s1, t1, s1.g.z b13⟩ (fun ω o1 _ => ?_))
  refine ⟨iLr T n B (linesP T n (n + 1) (fun _ => 0) (skF T n 0)), ⟨n, iLr_of rfl (o1.p s1.g) t1.2.1 (by omega)⟩, ?_⟩
  rintro m χ (⟨f, p, e, fl⟩ | ⟨Y, b, hY, gY, e, nm⟩) _
  · exact ⟨fun _ => d_b104 fl.d (hq2 χ (oR_bd e fl)), fun z => absurd z fl.d⟩
  · have tY := hY.2.2.1
    have rc := rc_i T n b
    rw [tY.2.2.2.2.1]
    refine ⟨fun z => absurd hY.2.2.2 z, fun _ => ⟨fun k3 => r_end7 hY (fun ω o2 => hq2 ω (by rw [e.trans (cI_n (fun q => k3 (rc.2.2.2.1.2 q)))]; exact o2.p gY)), fun k => ?_⟩⟩
    have k3 := rc.2.2.2.1.1 k
    have e2 := e.trans (cI_y k3)
    have bn := semi_lt k3 (by decide)
    have nx := nxF_le (T := T) tY.2.1
    have lt := nx.2.2 bn
    obtain ⟨m', rfl⟩ : ∃ m', m = m' + 1 := ⟨m - 1, by omega⟩
    exact r_nx7 tY (fun ω2 s2 t2 _ => r_line7 ⟨hY.1, hY.2.1.s s2, t2, s2.g.z hY.2.2.2⟩ (fun ω o2 _ => ⟨m', by omega, iLr_of e2.symm (o2.p (gY.tt s2.g)) t2.2.1 (by omega)⟩))
