/-! stairs: each step is one nearer or one farther -/
def PT (R : Nat → Int) (n : Nat) (up : Int) (D : Nat → Nat → Int) (h b : Nat → Nat) (F : Nat → Int) : Prop :=
  okR R ∧ (∀ t : Nat, (t : Int) < R 0 → isDist (adjF R) 25 (h t) (D t)) ∧ okX R n b ∧ (∀ t : Nat, (t : Int) < R 0 → 0 ≤ D t (b t)) ∧ isDist (adjW R 1 n up) 15625 (cdF b) F
def Phi (R : Nat → Int) (D : Nat → Nat → Int) (f : Nat → Nat) : Int := sumN (fun t => D t (f t)) (R 0).toNat
theorem Phi_set {R : Nat → Int} {D : Nat → Nat → Int} {f : Nat → Nat} {t v : Nat} (ht : (t : Int) < R 0) : Phi R D (sT f t v) = Phi R D f + D t v - D t (f t) := by
  unfold Phi
  have := sumN_upd (f := fun t => D t (f t)) (g := fun t' => D t' (sT f t v t')) (x := t) (d := D t v - D t (f t)) (by simp [sT]; omega) (fun c hc => by show D c (if t = c then v else f c) = D c (f c); rw [if_neg (fun z => hc z.symm)]) (R 0).toNat
  rw [this, if_pos (by omega)]; omega
theorem Phi_c {R : Nat → Int} (hR : okR R) {D : Nat → Nat → Int} {f g : Nat → Nat} (e : ∀ j, j < 3 → f j = g j) : Phi R D f = Phi R D g := by
  have bT := hR.T
  exact sumN_c _ (fun c hc => by rw [e c (by omega)])
theorem adj_ln {R : Nat → Int} (hR : okR R) {w v : Nat} (h : adjF R w v) : lnF R v = lnF R w + 1 ∨ lnF R w = lnF R v + 1 := by
  rcases h with z | z
  · exact Or.inl (by_ln hR z)
  · exact Or.inr (by_ln hR z)
theorem D_par {R d : Nat → Int} (hR : okR R) {g : Nat} (hd : isDist (adjF R) 25 g d) : ∀ (m w : Nat), w < 25 → d w = m → (d w + lnF R w + lnF R g) % 2 = 0 := by
  intro m
  induction m with
  | zero =>
    intro w hw h0
    have := hd.2.2.2.1 w hw h0
    subst this
    rw [h0]; omega
  | succ m ih =>
    intro w hw h0
    obtain ⟨u, u1, u2, u3⟩ := hd.2.2.1 w hw (by omega)
    have := ih u u1 (by omega)
    rcases adj_ln hR u2 with z | z <;> omega
theorem D_pm {R d : Nat → Int} (hR : okR R) {g w v : Nat} (hd : isDist (adjF R) 25 g d) (hw : w < 25) (hv : v < 25) (h0 : 0 ≤ d w) (a : adjF R w v) : 0 ≤ d v ∧ (d v = d w + 1 ∨ d v = d w - 1) := by
  have c1 := hd.2.2.2.2 w v hw hv h0 a
  have c2 := hd.2.2.2.2 v w hv hw c1.1 a.symm
  have p1 := D_par hR hd (d w).toNat w hw (by omega)
  have p2 := D_par hR hd (d v).toNat v hv (by omega)
  refine ⟨c1.1, ?_⟩
  rcases adj_ln hR a with z | z <;> omega
theorem st_adj {R : Nat → Int} {n up : Int} {f : Nat → Nat} {t v : Nat} (h : stTV R 1 n up f t v) : adjF R (f t) v := by
  rcases h.1 with z | z
  · exact Or.inl z.1
  · exact Or.inr z.2
theorem reach_ok {R : Nat → Int} {n : Nat} {up : Int} {D : Nat → Nat → Int} {h b : Nat → Nat} {F : Nat → Int} (H : PT R n up D h b F) : ∀ (m x : Nat), x < 15625 → F x = m → ∃ f, okX R n f ∧ x = cdF f ∧ (∀ t : Nat, (t : Int) < R 0 → 0 ≤ D t (f t)) ∧ (F x + Phi R D f - Phi R D b) % 2 = 0 := by
  obtain ⟨hR, hD, hb, hb0, hF⟩ := H
  have bT := hR.T
  have dl : ∀ {w : Nat}, domF R w → w ≤ 24 := fun hw => domF_le hR hw
  intro m
  induction m with
  | zero =>
    intro x hx h0
    refine ⟨b, hb, hF.2.2.2.1 x hx h0, hb0, ?_⟩
    rw [h0]; omega
  | succ m ih =>
    intro x hx h0
    obtain ⟨w, w1, w2, w3⟩ := hF.2.2.1 x hx (by omega)
    obtain ⟨f, f1, f2, f3, f4⟩ := ih w w1 (by omega)
    obtain ⟨f', t, v, a1, a2, a3, a4, a5, a6⟩ := w2
    have ee := cdF_inj (fun j hj => dl (f1.1 j hj)) (fun j hj => dl (a1 j hj)) (f2.symm.trans a2)
    have f1' := okX_c ee f1
    have tl : t < 3 := by omega
    have d0 : 0 ≤ D t (f' t) := by rw [← ee t tl]; exact f3 t a3
    have pm := D_pm hR (hD t a3) (by have := dl (a1 t tl); omega) (show v < 25 by omega) d0 (st_adj a5)
    refine ⟨sT f' t v, okX_up hR f1' a3 a5, a6, fun t' ht' => ?_, ?_⟩
    · unfold sT
      by_cases q : t = t'
      · subst q; rw [if_pos rfl]; exact pm.1
      · rw [if_neg q, ← ee t' (by omega)]; exact f3 t' ht'
    · rw [Phi_set a3, ← Phi_c hR ee]
      rcases pm.2 with z | z <;> omega
def Ak (R : Nat → Int) (D : Nat → Nat → Int) (b : Nat → Nat) (F : Nat → Int) (k : Int) (f : Nat → Nat) : Prop := 0 ≤ F (cdF f) ∧ F (cdF f) + Phi R D f - Phi R D b ≤ 2 * k
theorem st_reach {R : Nat → Int} {n : Nat} {up : Int} {D : Nat → Nat → Int} {h b : Nat → Nat} {F : Nat → Int} (H : PT R n up D h b F) {f : Nat → Nat} (hf : okX R n f) (h0 : 0 ≤ F (cdF f)) {t v : Nat} (tT : (t : Int) < R 0) (hv : v ≤ 24) (hs : stTV R 1 n up f t v) :
    okX R n (sT f t v) ∧ 0 ≤ F (cdF (sT f t v)) ∧ F (cdF (sT f t v)) ≤ F (cdF f) + 1 ∧ (D t v = D t (f t) + 1 ∨ D t v = D t (f t) - 1) := by
  have hR := H.1
  have bT := hR.T
  have dl : ∀ {w : Nat}, domF R w → w ≤ 24 := fun hw => domF_le hR hw
  have lt := cdF_lt (fun j hj => dl (hf.1 j hj))
  obtain ⟨f2, g1, g2, g3, _⟩ := reach_ok H (F (cdF f)).toNat (cdF f) lt (by omega)
  have ee := cdF_inj (fun j hj => dl (hf.1 j hj)) (fun j hj => dl (g1.1 j hj)) g2
  have tl : t < 3 := by omega
  have d0 : 0 ≤ D t (f t) := by rw [ee t tl]; exact g3 t tT
  have ok2 := okX_up hR hf tT hs
  have lt2 := cdF_lt (fun j hj => dl (ok2.1 j hj))
  have cl := H.2.2.2.2.2.2.2.2 (cdF f) (cdF (sT f t v)) lt lt2 h0 ⟨f, t, v, hf.1, rfl, tT, hv, hs, rfl⟩
  have pm := D_pm hR (H.2.1 t tT) (by have := dl (hf.1 t tl); omega) (show v < 25 by omega) d0 (st_adj hs)
  exact ⟨ok2, cl.1, cl.2, pm.2⟩
theorem fwd_A {R : Nat → Int} {n : Nat} {up : Int} {D : Nat → Nat → Int} {h b : Nat → Nat} {F : Nat → Int} (H : PT R n up D h b F) {f : Nat → Nat} {k : Int} (hf : okX R n f) (ha : Ak R D b F k f) {x : Nat} (hx : fwd R n up D f x) : ∃ g, okX R n g ∧ Ak R D b F k g ∧ x = cdX g := by
  obtain ⟨t, v, a1, a2, a3, a4, a5⟩ := hx
  obtain ⟨s1, s2, s3, s4⟩ := st_reach H hf ha.1 a1 a2 a3
  refine ⟨sT f t v, s1, ⟨s2, ?_⟩, a5⟩
  rw [Phi_set a1]
  have := ha.2
  rcases s4 with z | z <;> omega
theorem bck_A {R : Nat → Int} {n : Nat} {up : Int} {D : Nat → Nat → Int} {h b : Nat → Nat} {F : Nat → Int} (H : PT R n up D h b F) {f : Nat → Nat} {k : Int} (hf : okX R n f) (ha : Ak R D b F k f) {x : Nat} (hx : bck R n up D f x) : ∃ g, okX R n g ∧ Ak R D b F (k + 1) g ∧ x = cdX g := by
  obtain ⟨t, v, a1, a2, a3, a4, a5⟩ := hx
  obtain ⟨s1, s2, s3, s4⟩ := st_reach H hf ha.1 a1 a2 a3
  refine ⟨sT f t v, s1, ⟨s2, ?_⟩, a5⟩
  rw [Phi_set a1]
  have := ha.2
  rcases s4 with z | z <;> omega
/-- what has been looked at holds all with as few steps back -/
theorem all_A {R : Nat → Int} {n : Nat} {up : Int} {D : Nat → Nat → Int} {h b : Nat → Nat} {F : Nat → Int} (H : PT R n up D h b F) {S : Nat → Prop} {k : Int} (h1 : S (cdX b)) (h2 : ∀ f y, okX R n f → S (cdX f) → fwd R n up D f y → S y) (h3 : ∀ f y, okX R n f → Ak R D b F (k - 1) f → bck R n up D f y → S y) :
    ∀ (m : Nat) (f : Nat → Nat), okX R n f → F (cdF f) = m → Ak R D b F k f → S (cdX f) := by
  have hR := H.1
  have bT := hR.T
  have hF := H.2.2.2.2
  have dl : ∀ {w : Nat}, domF R w → w ≤ 24 := fun hw => domF_le hR hw
  intro m
  induction m with
  | zero =>
    intro f hf h0 _
    have lt := cdF_lt (fun j hj => dl (hf.1 j hj))
    have := hF.2.2.2.1 _ lt h0
    have ee := cdF_inj (fun j hj => dl (hf.1 j hj)) (fun j hj => dl (H.2.2.1.1 j hj)) this
    rw [cdX_c ee]; exact h1
  | succ m ih =>
    intro f hf h0 ha
    have lt := cdF_lt (fun j hj => dl (hf.1 j hj))
    obtain ⟨w, w1, w2, w3⟩ := hF.2.2.1 _ lt (by omega)
    obtain ⟨f', t, v, a1, a2, a3, a4, a5, a6⟩ := w2
    obtain ⟨g, g1, g2, g3, _⟩ := reach_ok H m w w1 (by omega)
    have e1 := cdF_inj (fun j hj => dl (g1.1 j hj)) (fun j hj => dl (a1 j hj)) (g2.symm.trans a2)
    have ok' := okX_c e1 g1
    have sd := sT_dom (t := t) a1 (stTV_dom a5)
    have e2 := cdF_inj (fun j hj => dl (hf.1 j hj)) (fun j hj => dl (sd j hj)) a6
    have Fw : F (cdF f') = m := by rw [← a2]; omega
    have pm := (st_reach H ok' (by omega) a3 a4 a5).2.2.2
    have ph : Phi R D f = Phi R D f' + D t v - D t (f' t) := by rw [Phi_c hR e2, Phi_set a3]
    have hb := ha.2
    rw [cdX_c e2]
    rcases pm with z | z
    · refine h3 f' _ ok' ⟨by omega, by omega⟩ ⟨t, v, a3, a4, a5, by omega, rfl⟩
    · exact h2 f' _ ok' (ih f' ok' Fw ⟨by omega, by omega⟩) ⟨t, v, a3, a4, a5, by omega, rfl⟩
theorem all_R {R : Nat → Int} {n : Nat} {up : Int} {D : Nat → Nat → Int} {h b : Nat → Nat} {F : Nat → Int} (H : PT R n up D h b F) {S : Nat → Prop} (h1 : S (cdX b)) (h2 : ∀ f y, okX R n f → S (cdX f) → fwd R n up D f y → S y) (h3 : ∀ f y, okX R n f → S (cdX f) → bck R n up D f y → S y) :
    ∀ (m : Nat) (f : Nat → Nat), okX R n f → F (cdF f) = m → S (cdX f) := by
  have hR := H.1
  have bT := hR.T
  have hF := H.2.2.2.2
  have dl : ∀ {w : Nat}, domF R w → w ≤ 24 := fun hw => domF_le hR hw
  intro m
  induction m with
  | zero =>
    intro f hf h0
    have lt := cdF_lt (fun j hj => dl (hf.1 j hj))
    have := hF.2.2.2.1 _ lt h0
    have ee := cdF_inj (fun j hj => dl (hf.1 j hj)) (fun j hj => dl (H.2.2.1.1 j hj)) this
    rw [cdX_c ee]; exact h1
  | succ m ih =>
    intro f hf h0
    have lt := cdF_lt (fun j hj => dl (hf.1 j hj))
    obtain ⟨w, w1, w2, w3⟩ := hF.2.2.1 _ lt (by omega)
    obtain ⟨f', t, v, a1, a2, a3, a4, a5, a6⟩ := w2
    obtain ⟨g, g1, g2, g3, _⟩ := reach_ok H m w w1 (by omega)
    have e1 := cdF_inj (fun j hj => dl (g1.1 j hj)) (fun j hj => dl (a1 j hj)) (g2.symm.trans a2)
    have ok' := okX_c e1 g1
    have sd := sT_dom (t := t) a1 (stTV_dom a5)
    have e2 := cdF_inj (fun j hj => dl (hf.1 j hj)) (fun j hj => dl (sd j hj)) a6
    have Fw : F (cdF f') = m := by rw [← a2]; omega
    have s' := ih f' ok' Fw
    rw [cdX_c e2]
    by_cases z : D t v < D t (f' t)
    · exact h2 f' _ ok' s' ⟨t, v, a3, a4, a5, z, rfl⟩
    · exact h3 f' _ ok' s' ⟨t, v, a3, a4, a5, z, rfl⟩
/-! rounds -/
def WW (R : Nat → Int) (n : Nat) (up : Int) (D : Nat → Nat → Int) (b : Nat → Nat) (F : Nat → Int) (k : Int) (P now lat : List Nat) (ξ : xM) : Prop :=
  (∀ x, x ∈ P ∨ x ∈ now → ∃ f, okX R n f ∧ Ak R D b F k f ∧ x = cdX f) ∧ (∀ x ∈ lat, ∃ f, okX R n f ∧ Ak R D b F (k + 1) f ∧ x = cdX f)
  ∧ (∀ f, okX R n f → cdX f ∈ P → (∀ y, fwd R n up D f y → y ∈ P ∨ y ∈ now) ∧ (∀ y, bck R n up D f y → (y ∈ P ∨ y ∈ now) ∨ inB (ξ 246) y))
  ∧ (cdX b ∈ P ∨ cdX b ∈ now) ∧ (∀ f y, okX R n f → Ak R D b F (k - 1) f → bck R n up D f y → y ∈ P ∨ y ∈ now)
theorem Sch_pop {P now lat : List Nat} {c : Nat} {ξ : xM} (h : Sch P (now ++ [c]) lat ξ) (m : Int) (hm : m = now.length) : Sch (P ++ [c]) now lat (wi ξ 236 9 m) ∧ ξ (ξ 236 5).toNat now.length = c ∧ c < 15625 := by
  have c1 : c < 15625 := h.2.2.2.2.2.2.2.1 c (by simp)
  have ek : (ξ 236 5).toNat = 243 ∨ (ξ 236 5).toNat = 244 := by rcases h.1 with z | z <;> omega
  have ekl : (ξ 236 6).toNat = 243 ∨ (ξ 236 6).toNat = 244 := by rcases h.1 with z | z <;> omega
  obtain ⟨p1, p2, p3, p4, p5, p6, p7, p8, p9, p10, p11⟩ := h
  have perm : ((P ++ [c]) ++ now).Perm (P ++ (now ++ [c])) := by
    rw [List.append_assoc]
    exact List.Perm.append_left P List.perm_append_comm
  refine ⟨?_, ?_, c1⟩
  · have e5 : wi ξ 236 9 m 236 5 = ξ 236 5 := wi_place (by omega)
    have e6 : wi ξ 236 9 m 236 6 = ξ 236 6 := wi_place (by omega)
    have e10 : wi ξ 236 9 m 236 10 = ξ 236 10 := wi_place (by omega)
    have ec : ∀ k, k ≠ 236 → wi ξ 236 9 m k = ξ k := fun k hk => by funext j; exact wi_cell hk
    unfold Sch
    rw [e5, e6, e10, wi_self, ec 245 (by omega), ec 246 (by omega), ec (ξ 236 5).toNat (by omega), ec (ξ 236 6).toNat (by omega)]
    refine ⟨p1, hm, fun i hi => ?_, p4, p5, fun x hx => ?_, perm.nodup_iff.2 p7, fun x hx => p8 x (perm.mem_iff.1 hx), p9, p10, fun x hx z => ?_⟩
    · have := p3 i (by simp; omega)
      rw [List.getElem_append_left hi] at this
      exact this
    · rw [p6 x hx]
      simp only [List.mem_append, List.mem_singleton]
      constructor
      · rintro (z | z | z)
        · exact Or.inl (Or.inl z)
        · exact Or.inr z
        · exact Or.inl (Or.inr z)
      · rintro ((z | z) | z)
        · exact Or.inl z
        · exact Or.inr (Or.inr z)
        · exact Or.inr (Or.inl z)
    · rcases p11 x hx z with w | w | w
      · exact Or.inl w
      · exact Or.inr (Or.inl (List.mem_append.2 (Or.inl w)))
      · rcases List.mem_append.1 w with u | u
        · exact Or.inr (Or.inr u)
        · exact Or.inr (Or.inl (List.mem_append.2 (Or.inr u)))
  · have := p3 now.length (by simp)
    rw [this]; simp
theorem s_goOnAll {ν : xM} {R : Nat → Int} {n : Nat} {up : Int} {D : Nat → Nat → Int} {h b : Nat → Nat} {F : Nat → Int} {k : Int} {P now lat : List Nat} {Q : xM → Prop} (H : PT R n up D h b F) (hn : (n : Int) ≤ R 4) (hc : CB R n up D ν) (hs : Sch P now lat ν) (hw : WW R n up D b F k P now lat ν)
    (hq : ∀ (ω : xM) (P' lat' : List Nat), CB R n up D ω → gS ν ω → Sch P' [] lat' ω → WW R n up D b F k P' [] lat' ω → Q ω) : tX7_goOnAll ν Q := by
  have hR := H.1
  have dl : ∀ {w : Nat}, domF R w → w ≤ 24 := fun hw => domF_le hR hw
  intro _
  refine up1 (n := 15625) (fun i ξ => ∃ P' now' lat', i ≤ P'.length ∧ CB R n up D ξ ∧ gS ν ξ ∧ Sch P' now' lat' ξ ∧ WW R n up D b F k P' now' lat' ξ) (by omega) ⟨P, now, lat, by omega, hc, ⟨fun _ _ _ _ => rfl, fun _ _ _ => rfl⟩, hs, hw⟩ ?_
  rintro i ξ K i0 i1 ⟨P', now', lat', il, c1, g1, s1, w1⟩ _ hK
  have nl := nodup_le _ _ s1.2.2.2.2.2.2.1 s1.2.2.2.2.2.2.2.1
  rw [List.length_append] at nl
  have e9 := s1.2.1
  have fin : now' = [] → Q ξ := fun z => by subst z; exact hq ξ P' lat' c1 g1 s1 w1
  refine ⟨⟨by omega, by omega⟩, fun d => fin (List.length_eq_zero_iff.1 (by omega)), fun d => ⟨fun z => fin (List.length_eq_zero_iff.1 (by omega)), fun z => ?_⟩⟩
  rcases List.eq_nil_or_concat now' with y | ⟨now0, c, y⟩
  · rw [y] at e9; simp at e9; omega
  · rw [List.concat_eq_append] at y
    subst y
    rw [List.length_append, List.length_singleton] at e9 nl
    have e8 : ξ 236 9 - 1 = now0.length := by omega
    obtain ⟨s2, x2, cl⟩ := Sch_pop s1 (ξ 236 9 - 1) e8
    refine ⟨⟨by omega, by omega⟩, wl fun _ => ?_⟩
    have e5 : wi ξ 236 9 (ξ 236 9 - 1) 236 5 = ξ 236 5 := wi_place (by omega)
    have ek : (ξ 236 5).toNat = 243 ∨ (ξ 236 5).toNat = 244 := by rcases s1.1 with z | z <;> omega
    rw [wi_self, e5]
    refine ⟨s1.ly.1, ⟨by omega, by omega⟩, ?_⟩
    rw [wi_cell (by omega), show (ξ 236 9 - 1).toNat = now0.length by omega, x2]
    obtain ⟨f, f1, f2, f3⟩ := w1.1 c (Or.inr (by simp))
    rw [f3]
    have c2 : CB R n up D (wi ξ 236 9 (ξ 236 9 - 1)) := c1.pt ⟨fun k a _ => by funext j; exact wi_cell a, fun j a _ => wi_place a⟩
    refine s_goOn c2 hn s2 f1 (fun ω now2 lat2 q1 q2 q3 q4 q5 q6 q7 q8 q9 q10 _ => hK ω (by omega) ⟨P' ++ [c], now2, lat2, by simp; omega, q1, ?_, q3, ?_⟩)
    · refine g1.tt (gS.tt ?_ q2)
      exact ⟨fun k a _ _ => by funext j; exact wi_cell a, fun j a _ => wi_place a⟩
    · obtain ⟨v1, v2, v3, v4, v5⟩ := w1
      have up1' : ∀ x, (x ∈ P' ∨ x ∈ now0 ++ [c]) → (x ∈ P' ++ [c] ∨ x ∈ now2) := by
        intro x hx
        rcases hx with z | z
        · exact Or.inl (List.mem_append.2 (Or.inl z))
        · rcases List.mem_append.1 z with y | y
          · exact Or.inr (q4 x y)
          · exact Or.inl (List.mem_append.2 (Or.inr y))
      have q8' : ∀ x, inB (ξ 246) x → inB (ω 246) x := fun x hx => q8 x (by
        have : wi ξ 236 9 (ξ 236 9 - 1) 246 = ξ 246 := by funext j; exact wi_cell (by omega)
        rw [this]; exact hx)
      refine ⟨fun x hx => ?_, fun x hx => ?_, fun g hg hx => ?_, up1' _ v4, fun g y hg ha hy => up1' _ (v5 g y hg ha hy)⟩
      · rcases hx with z | z
        · rcases List.mem_append.1 z with y | y
          · exact v1 x (Or.inl y)
          · exact v1 x (Or.inr (List.mem_append.2 (Or.inr y)))
        · rcases q5 x z with y | y
          · exact v1 x (Or.inr (List.mem_append.2 (Or.inl y)))
          · exact fwd_A H f1 f2 y
      · rcases q7 x hx with y | y
        · exact v2 x y
        · exact bck_A H f1 f2 y
      · rcases List.mem_append.1 hx with z | z
        · have := v3 g hg z
          exact ⟨fun y hy => up1' _ (this.1 y hy), fun y hy => (this.2 y hy).elim (fun u => Or.inl (up1' _ u)) (fun u => Or.inr (q8' _ u))⟩
        · have ec : cdX g = c := List.mem_singleton.1 z
          have ee := cdX_inj (fun j hj => dl (hg.1 j hj)) (fun j hj => dl (f1.1 j hj)) (ec.trans f3)
          have tr : ∀ (t v : Nat), (t : Int) < R 0 → stTV R 1 n up g t v → stTV R 1 n up f t v ∧ cdX (sT g t v) = cdX (sT f t v) ∧ g t = f t := fun t v ht s => by
            have bT := hR.T
            exact ⟨stTV_c (by omega) ee s, cdX_c (sT_c ee), ee t (by omega)⟩
          refine ⟨fun y hy => q9 y ?_, fun y hy => q10 y ?_⟩
          · obtain ⟨t, v, a1, a2, a3, a4, a5⟩ := hy
            obtain ⟨b1, b2, b3⟩ := tr t v a1 a3
            exact ⟨t, v, a1, a2, b1, by rw [← b3]; exact a4, by rw [← b2]; exact a5⟩
          · obtain ⟨t, v, a1, a2, a3, a4, a5⟩ := hy
            obtain ⟨b1, b2, b3⟩ := tr t v a1 a3
            exact ⟨t, v, a1, a2, b1, by rw [← b3]; exact a4, by rw [← b2]; exact a5⟩
